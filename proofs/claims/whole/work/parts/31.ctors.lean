/-! the constructors, one by one, where they run (by program) -/
def q_BO (Pi : Heap → Prop) (D : va_G) (dA : Nat → ClassId) : State → Prop := fun U => Pi U.heap ∧ q_K D dA U ∧ va_AO "CutRepairer$Flow" U
theorem q_blindO {as : List Value} {Pi : Heap → Prop} {D : va_G} {dA : Nat → ClassId} : FrameBlind (va_Pc as (q_BO Pi D dA)) := fun _ U _ _ q => ⟨q.1, q.2.1, q.2.2.1.same rfl, va_AO.moved (Vm.Alike.refl U.vm) q.2.2.2⟩
theorem aw_1 : Cond.arrayClass (q_aty 1).2 ∈ q_W := q_inT 84 (by decide +kernel) rfl
theorem aw_2 : Cond.arrayClass (q_aty 2).2 ∈ q_W := q_inT 313 (by decide +kernel) rfl
theorem aw_3 : Cond.arrayClass (q_aty 3).2 ∈ q_W := q_inT 205 (by decide +kernel) rfl
theorem aw_4 : Cond.arrayClass (q_aty 4).2 ∈ q_W := q_inT 1055 (by decide +kernel) rfl
theorem oi_RX10_1 : Cond.methodLink RX10 1 Lib.objectInit ∈ q_W ∧ Cond.instanceMethod Lib.objectInit ∈ q_W ∧ Cond.code Lib.objectInit ⟨#[0xb1]⟩ 1 none ∈ q_W := ⟨(q_inT 21 (by decide +kernel) rfl), (q_inT 22 (by decide +kernel) rfl), (q_inT 23 (by decide +kernel) rfl)⟩
theorem nw_RX10_7 : q_NW RX10 7 9 := ⟨RX9, TX9, 7, tyX9, rfl, rfl, q_cl9, (q_inT 24 (by decide +kernel) rfl), (q_inT 25 (by decide +kernel) rfl), (q_inT 2 (by decide +kernel) rfl), tyX9_ok, by decide⟩
theorem oi_RX9_3 : Cond.methodLink RX9 3 Lib.objectInit ∈ q_W ∧ Cond.instanceMethod Lib.objectInit ∈ q_W ∧ Cond.code Lib.objectInit ⟨#[0xb1]⟩ 1 none ∈ q_W := ⟨(q_inT 29 (by decide +kernel) rfl), (q_inT 22 (by decide +kernel) rfl), (q_inT 23 (by decide +kernel) rfl)⟩
theorem fr_RX9_9 : q_FR RX9 9 9 1 := ⟨RX9, TX9, 7, tyX9, rfl, rfl, q_cl9, by decide, (q_inT 146 (by decide +kernel) rfl : Cond.fieldLink RX9 9 (TX9 1).1 (TX9 1).2.1 (TX9 1).2.2.1 ∈ q_W), rfl, rfl, tyX9_ok, nmX9, fun _ => ⟨rfl, rfl⟩, rfl⟩
theorem fr_RX9_15 : q_FR RX9 15 9 2 := ⟨RX9, TX9, 7, tyX9, rfl, rfl, q_cl9, by decide, (q_inT 149 (by decide +kernel) rfl : Cond.fieldLink RX9 15 (TX9 2).1 (TX9 2).2.1 (TX9 2).2.2.1 ∈ q_W), rfl, rfl, tyX9_ok, nmX9, fun _ => ⟨rfl, rfl⟩, rfl⟩
theorem fr_RX9_18 : q_FR RX9 18 9 3 := ⟨RX9, TX9, 7, tyX9, rfl, rfl, q_cl9, by decide, (q_inT 151 (by decide +kernel) rfl : Cond.fieldLink RX9 18 (TX9 3).1 (TX9 3).2.1 (TX9 3).2.2.1 ∈ q_W), rfl, rfl, tyX9_ok, nmX9, fun _ => ⟨rfl, rfl⟩, rfl⟩
theorem nw_RX9_21 : q_NW RX9 21 3 := ⟨RX3, TX3, 10, tyX3, rfl, rfl, q_cl3, (q_inT 30 (by decide +kernel) rfl), (q_inT 31 (by decide +kernel) rfl), (q_inT 3 (by decide +kernel) rfl), tyX3_ok, by decide⟩
theorem oi_RX3_3 : Cond.methodLink RX3 3 Lib.objectInit ∈ q_W ∧ Cond.instanceMethod Lib.objectInit ∈ q_W ∧ Cond.code Lib.objectInit ⟨#[0xb1]⟩ 1 none ∈ q_W := ⟨(q_inT 35 (by decide +kernel) rfl), (q_inT 22 (by decide +kernel) rfl), (q_inT 23 (by decide +kernel) rfl)⟩
theorem fr_RX3_9 : q_FR RX3 9 3 1 := ⟨RX3, TX3, 10, tyX3, rfl, rfl, q_cl3, by decide, (q_inT 39 (by decide +kernel) rfl : Cond.fieldLink RX3 9 (TX3 1).1 (TX3 1).2.1 (TX3 1).2.2.1 ∈ q_W), rfl, rfl, tyX3_ok, nmX3, fun _ => ⟨rfl, rfl⟩, rfl⟩
theorem fr_RX3_15 : q_FR RX3 15 3 2 := ⟨RX3, TX3, 10, tyX3, rfl, rfl, q_cl3, by decide, (q_inT 42 (by decide +kernel) rfl : Cond.fieldLink RX3 15 (TX3 2).1 (TX3 2).2.1 (TX3 2).2.2.1 ∈ q_W), rfl, rfl, tyX3_ok, nmX3, fun _ => ⟨rfl, rfl⟩, rfl⟩
theorem fr_RX3_18 : q_FR RX3 18 3 3 := ⟨RX3, TX3, 10, tyX3, rfl, rfl, q_cl3, by decide, (q_inT 45 (by decide +kernel) rfl : Cond.fieldLink RX3 18 (TX3 3).1 (TX3 3).2.1 (TX3 3).2.2.1 ∈ q_W), rfl, rfl, tyX3_ok, nmX3, fun _ => ⟨rfl, rfl⟩, rfl⟩
theorem fr_RX3_21 : q_FR RX3 21 3 4 := ⟨RX3, TX3, 10, tyX3, rfl, rfl, q_cl3, by decide, (q_inT 48 (by decide +kernel) rfl : Cond.fieldLink RX3 21 (TX3 4).1 (TX3 4).2.1 (TX3 4).2.2.1 ∈ q_W), rfl, rfl, tyX3_ok, nmX3, fun _ => ⟨rfl, rfl⟩, rfl⟩
theorem fr_RX3_24 : q_FR RX3 24 3 5 := ⟨RX3, TX3, 10, tyX3, rfl, rfl, q_cl3, by decide, (q_inT 51 (by decide +kernel) rfl : Cond.fieldLink RX3 24 (TX3 5).1 (TX3 5).2.1 (TX3 5).2.2.1 ∈ q_W), rfl, rfl, tyX3_ok, nmX3, fun _ => ⟨rfl, rfl⟩, rfl⟩
theorem fr_RX3_27 : q_FR RX3 27 3 6 := ⟨RX3, TX3, 10, tyX3, rfl, rfl, q_cl3, by decide, (q_inT 54 (by decide +kernel) rfl : Cond.fieldLink RX3 27 (TX3 6).1 (TX3 6).2.1 (TX3 6).2.2.1 ∈ q_W), rfl, rfl, tyX3_ok, nmX3, fun _ => ⟨rfl, rfl⟩, rfl⟩
theorem fr_RX3_30 : q_FR RX3 30 3 7 := ⟨RX3, TX3, 10, tyX3, rfl, rfl, q_cl3, by decide, (q_inT 56 (by decide +kernel) rfl : Cond.fieldLink RX3 30 (TX3 7).1 (TX3 7).2.1 (TX3 7).2.2.1 ∈ q_W), rfl, rfl, tyX3_ok, nmX3, fun _ => ⟨rfl, rfl⟩, rfl⟩
theorem fr_RX3_33 : q_FR RX3 33 3 8 := ⟨RX3, TX3, 10, tyX3, rfl, rfl, q_cl3, by decide, (q_inT 58 (by decide +kernel) rfl : Cond.fieldLink RX3 33 (TX3 8).1 (TX3 8).2.1 (TX3 8).2.2.1 ∈ q_W), rfl, rfl, tyX3_ok, nmX3, fun _ => ⟨rfl, rfl⟩, rfl⟩
theorem fr_RX3_36 : q_FR RX3 36 3 9 := ⟨RX3, TX3, 10, tyX3, rfl, rfl, q_cl3, by decide, (q_inT 60 (by decide +kernel) rfl : Cond.fieldLink RX3 36 (TX3 9).1 (TX3 9).2.1 (TX3 9).2.2.1 ∈ q_W), rfl, rfl, tyX3_ok, nmX3, fun _ => ⟨rfl, rfl⟩, rfl⟩
theorem gi_RX9_23 : GoodIn q_W (q_wc yX3_init cX3_init 1 none) ∧ (RX9, 23, yX3_init, "CutRepairer") ∈ q_nest ∧ Cond.instanceMethod yX3_init ∈ q_W ∧ Cond.initialized yX3_init.cls ∈ q_W ∧ yX3_init.name = "<init>" ∧ yX3_init.cls ≠ "java/lang/invoke/MethodHandle" ∧ yX3_init.cls ≠ "java/lang/invoke/VarHandle" ∧ (parseMethodDescriptor yX3_init.desc).map (fun d => d.parameters.length) = some 0 := ⟨q_gcode (q_inT 34 (by decide +kernel) rfl), List.mem_of_getElem? (i := 1) rfl, (q_inT 33 (by decide +kernel) rfl), (q_inT 3 (by decide +kernel) rfl), rfl, by decide +kernel⟩
theorem fr_RX9_24 : q_FR RX9 24 9 4 := ⟨RX9, TX9, 7, tyX9, rfl, rfl, q_cl9, by decide, (q_inT 153 (by decide +kernel) rfl : Cond.fieldLink RX9 24 (TX9 4).1 (TX9 4).2.1 (TX9 4).2.2.1 ∈ q_W), rfl, rfl, tyX9_ok, nmX9, fun _ => ⟨rfl, rfl⟩, rfl⟩
theorem nw_RX9_28 : q_NW RX9 28 0 := ⟨RX0, TX0, 7, tyX0, rfl, rfl, q_cl0, (q_inT 85 (by decide +kernel) rfl), (q_inT 86 (by decide +kernel) rfl), (q_inT 4 (by decide +kernel) rfl), tyX0_ok, by decide⟩
theorem oi_RX0_3 : Cond.methodLink RX0 3 Lib.objectInit ∈ q_W ∧ Cond.instanceMethod Lib.objectInit ∈ q_W ∧ Cond.code Lib.objectInit ⟨#[0xb1]⟩ 1 none ∈ q_W := ⟨(q_inT 90 (by decide +kernel) rfl), (q_inT 22 (by decide +kernel) rfl), (q_inT 23 (by decide +kernel) rfl)⟩
theorem fr_RX0_9 : q_FR RX0 9 0 1 := ⟨RX0, TX0, 7, tyX0, rfl, rfl, q_cl0, by decide, (q_inT 94 (by decide +kernel) rfl : Cond.fieldLink RX0 9 (TX0 1).1 (TX0 1).2.1 (TX0 1).2.2.1 ∈ q_W), rfl, rfl, tyX0_ok, nmX0, fun _ => ⟨rfl, rfl⟩, rfl⟩
theorem fr_RX0_15 : q_FR RX0 15 0 2 := ⟨RX0, TX0, 7, tyX0, rfl, rfl, q_cl0, by decide, (q_inT 96 (by decide +kernel) rfl : Cond.fieldLink RX0 15 (TX0 2).1 (TX0 2).2.1 (TX0 2).2.2.1 ∈ q_W), rfl, rfl, tyX0_ok, nmX0, fun _ => ⟨rfl, rfl⟩, rfl⟩
theorem fr_RX0_18 : q_FR RX0 18 0 3 := ⟨RX0, TX0, 7, tyX0, rfl, rfl, q_cl0, by decide, (q_inT 100 (by decide +kernel) rfl : Cond.fieldLink RX0 18 (TX0 3).1 (TX0 3).2.1 (TX0 3).2.2.1 ∈ q_W), rfl, rfl, tyX0_ok, nmX0, fun _ => ⟨rfl, rfl⟩, rfl⟩
theorem fr_RX0_21 : q_FR RX0 21 0 4 := ⟨RX0, TX0, 7, tyX0, rfl, rfl, q_cl0, by decide, (q_inT 104 (by decide +kernel) rfl : Cond.fieldLink RX0 21 (TX0 4).1 (TX0 4).2.1 (TX0 4).2.2.1 ∈ q_W), rfl, rfl, tyX0_ok, nmX0, fun _ => ⟨rfl, rfl⟩, rfl⟩
theorem fr_RX0_24 : q_FR RX0 24 0 5 := ⟨RX0, TX0, 7, tyX0, rfl, rfl, q_cl0, by decide, (q_inT 106 (by decide +kernel) rfl : Cond.fieldLink RX0 24 (TX0 5).1 (TX0 5).2.1 (TX0 5).2.2.1 ∈ q_W), rfl, rfl, tyX0_ok, nmX0, fun _ => ⟨rfl, rfl⟩, rfl⟩
theorem fr_RX0_27 : q_FR RX0 27 0 6 := ⟨RX0, TX0, 7, tyX0, rfl, rfl, q_cl0, by decide, (q_inT 109 (by decide +kernel) rfl : Cond.fieldLink RX0 27 (TX0 6).1 (TX0 6).2.1 (TX0 6).2.2.1 ∈ q_W), rfl, rfl, tyX0_ok, nmX0, fun _ => ⟨rfl, rfl⟩, rfl⟩
theorem gi_RX9_30 : GoodIn q_W (q_wc yX0_init cX0_init 1 none) ∧ (RX9, 30, yX0_init, "CutRepairer") ∈ q_nest ∧ Cond.instanceMethod yX0_init ∈ q_W ∧ Cond.initialized yX0_init.cls ∈ q_W ∧ yX0_init.name = "<init>" ∧ yX0_init.cls ≠ "java/lang/invoke/MethodHandle" ∧ yX0_init.cls ≠ "java/lang/invoke/VarHandle" ∧ (parseMethodDescriptor yX0_init.desc).map (fun d => d.parameters.length) = some 0 := ⟨q_gcode (q_inT 89 (by decide +kernel) rfl), List.mem_of_getElem? (i := 2) rfl, (q_inT 88 (by decide +kernel) rfl), (q_inT 4 (by decide +kernel) rfl), rfl, by decide +kernel⟩
theorem fr_RX9_31 : q_FR RX9 31 9 5 := ⟨RX9, TX9, 7, tyX9, rfl, rfl, q_cl9, by decide, (q_inT 155 (by decide +kernel) rfl : Cond.fieldLink RX9 31 (TX9 5).1 (TX9 5).2.1 (TX9 5).2.2.1 ∈ q_W), rfl, rfl, tyX9_ok, nmX9, fun _ => ⟨rfl, rfl⟩, rfl⟩
theorem nw_RX9_35 : q_NW RX9 35 7 := ⟨RX7, TX7, 2, tyX7, rfl, rfl, q_cl7, (q_inT 126 (by decide +kernel) rfl), (q_inT 127 (by decide +kernel) rfl), (q_inT 5 (by decide +kernel) rfl), tyX7_ok, by decide⟩
theorem oi_RX7_3 : Cond.methodLink RX7 3 Lib.objectInit ∈ q_W ∧ Cond.instanceMethod Lib.objectInit ∈ q_W ∧ Cond.code Lib.objectInit ⟨#[0xb1]⟩ 1 none ∈ q_W := ⟨(q_inT 131 (by decide +kernel) rfl), (q_inT 22 (by decide +kernel) rfl), (q_inT 23 (by decide +kernel) rfl)⟩
theorem fr_RX7_9 : q_FR RX7 9 7 1 := ⟨RX7, TX7, 2, tyX7, rfl, rfl, q_cl7, by decide, (q_inT 135 (by decide +kernel) rfl : Cond.fieldLink RX7 9 (TX7 1).1 (TX7 1).2.1 (TX7 1).2.2.1 ∈ q_W), rfl, rfl, tyX7_ok, nmX7, fun _ => ⟨rfl, rfl⟩, rfl⟩
theorem gi_RX9_37 : GoodIn q_W (q_wc yX7_init cX7_init 1 none) ∧ (RX9, 37, yX7_init, "CutRepairer") ∈ q_nest ∧ Cond.instanceMethod yX7_init ∈ q_W ∧ Cond.initialized yX7_init.cls ∈ q_W ∧ yX7_init.name = "<init>" ∧ yX7_init.cls ≠ "java/lang/invoke/MethodHandle" ∧ yX7_init.cls ≠ "java/lang/invoke/VarHandle" ∧ (parseMethodDescriptor yX7_init.desc).map (fun d => d.parameters.length) = some 0 := ⟨q_gcode (q_inT 130 (by decide +kernel) rfl), List.mem_of_getElem? (i := 3) rfl, (q_inT 129 (by decide +kernel) rfl), (q_inT 5 (by decide +kernel) rfl), rfl, by decide +kernel⟩
theorem fr_RX9_38 : q_FR RX9 38 9 6 := ⟨RX9, TX9, 7, tyX9, rfl, rfl, q_cl9, by decide, (q_inT 158 (by decide +kernel) rfl : Cond.fieldLink RX9 38 (TX9 6).1 (TX9 6).2.1 (TX9 6).2.2.1 ∈ q_W), rfl, rfl, tyX9_ok, nmX9, fun _ => ⟨rfl, rfl⟩, rfl⟩
theorem gi_RX10_9 : GoodIn q_W (q_wc yX9_init cX9_init 1 none) ∧ (RX10, 9, yX9_init, "CutRepairer") ∈ q_nest ∧ Cond.instanceMethod yX9_init ∈ q_W ∧ Cond.initialized yX9_init.cls ∈ q_W ∧ yX9_init.name = "<init>" ∧ yX9_init.cls ≠ "java/lang/invoke/MethodHandle" ∧ yX9_init.cls ≠ "java/lang/invoke/VarHandle" ∧ (parseMethodDescriptor yX9_init.desc).map (fun d => d.parameters.length) = some 0 := ⟨q_gcode (q_inT 28 (by decide +kernel) rfl), List.mem_of_getElem? (i := 0) rfl, (q_inT 27 (by decide +kernel) rfl), (q_inT 2 (by decide +kernel) rfl), rfl, by decide +kernel⟩
theorem fr_RX10_10 : q_FR RX10 10 10 0 := ⟨RX10, TX10, 8, tyX10, rfl, rfl, q_cl10, by decide, (q_inT 354 (by decide +kernel) rfl : Cond.fieldLink RX10 10 (TX10 0).1 (TX10 0).2.1 (TX10 0).2.2.1 ∈ q_W), rfl, rfl, tyX10_ok, nmX10, fun _ => ⟨rfl, rfl⟩, rfl⟩
theorem fr_RX10_16 : q_FR RX10 16 10 1 := ⟨RX10, TX10, 8, tyX10, rfl, rfl, q_cl10, by decide, (q_inT 355 (by decide +kernel) rfl : Cond.fieldLink RX10 16 (TX10 1).1 (TX10 1).2.1 (TX10 1).2.2.1 ∈ q_W), rfl, rfl, tyX10_ok, nmX10, fun _ => ⟨rfl, rfl⟩, rfl⟩
theorem nw_RX10_19 : q_NW RX10 19 6 := ⟨RX6, TX6, 6, tyX6, rfl, rfl, q_cl6, (q_inT 175 (by decide +kernel) rfl), (q_inT 176 (by decide +kernel) rfl), (q_inT 6 (by decide +kernel) rfl), tyX6_ok, by decide⟩
theorem oi_RX6_3 : Cond.methodLink RX6 3 Lib.objectInit ∈ q_W ∧ Cond.instanceMethod Lib.objectInit ∈ q_W ∧ Cond.code Lib.objectInit ⟨#[0xb1]⟩ 1 none ∈ q_W := ⟨(q_inT 180 (by decide +kernel) rfl), (q_inT 22 (by decide +kernel) rfl), (q_inT 23 (by decide +kernel) rfl)⟩
theorem fr_RX6_9 : q_FR RX6 9 6 1 := ⟨RX6, TX6, 6, tyX6, rfl, rfl, q_cl6, by decide, (q_inT 183 (by decide +kernel) rfl : Cond.fieldLink RX6 9 (TX6 1).1 (TX6 1).2.1 (TX6 1).2.2.1 ∈ q_W), rfl, rfl, tyX6_ok, nmX6, fun _ => ⟨rfl, rfl⟩, rfl⟩
theorem gi_RX10_21 : GoodIn q_W (q_wc yX6_init cX6_init 1 none) ∧ (RX10, 21, yX6_init, "CutRepairer") ∈ q_nest ∧ Cond.instanceMethod yX6_init ∈ q_W ∧ Cond.initialized yX6_init.cls ∈ q_W ∧ yX6_init.name = "<init>" ∧ yX6_init.cls ≠ "java/lang/invoke/MethodHandle" ∧ yX6_init.cls ≠ "java/lang/invoke/VarHandle" ∧ (parseMethodDescriptor yX6_init.desc).map (fun d => d.parameters.length) = some 0 := ⟨q_gcode (q_inT 179 (by decide +kernel) rfl), List.mem_of_getElem? (i := 4) rfl, (q_inT 178 (by decide +kernel) rfl), (q_inT 6 (by decide +kernel) rfl), rfl, by decide +kernel⟩
theorem fr_RX10_22 : q_FR RX10 22 10 3 := ⟨RX10, TX10, 8, tyX10, rfl, rfl, q_cl10, by decide, (q_inT 357 (by decide +kernel) rfl : Cond.fieldLink RX10 22 (TX10 3).1 (TX10 3).2.1 (TX10 3).2.2.1 ∈ q_W), rfl, rfl, tyX10_ok, nmX10, fun _ => ⟨rfl, rfl⟩, rfl⟩
theorem nw_RX10_26 : q_NW RX10 26 5 := ⟨RX5, TX5, 5, tyX5, rfl, rfl, q_cl5, (q_inT 206 (by decide +kernel) rfl), (q_inT 207 (by decide +kernel) rfl), (q_inT 7 (by decide +kernel) rfl), tyX5_ok, by decide⟩
theorem oi_RX5_3 : Cond.methodLink RX5 3 Lib.objectInit ∈ q_W ∧ Cond.instanceMethod Lib.objectInit ∈ q_W ∧ Cond.code Lib.objectInit ⟨#[0xb1]⟩ 1 none ∈ q_W := ⟨(q_inT 211 (by decide +kernel) rfl), (q_inT 22 (by decide +kernel) rfl), (q_inT 23 (by decide +kernel) rfl)⟩
theorem fr_RX5_9 : q_FR RX5 9 5 1 := ⟨RX5, TX5, 5, tyX5, rfl, rfl, q_cl5, by decide, (q_inT 215 (by decide +kernel) rfl : Cond.fieldLink RX5 9 (TX5 1).1 (TX5 1).2.1 (TX5 1).2.2.1 ∈ q_W), rfl, rfl, tyX5_ok, nmX5, fun _ => ⟨rfl, rfl⟩, rfl⟩
theorem fr_RX5_15 : q_FR RX5 15 5 2 := ⟨RX5, TX5, 5, tyX5, rfl, rfl, q_cl5, by decide, (q_inT 218 (by decide +kernel) rfl : Cond.fieldLink RX5 15 (TX5 2).1 (TX5 2).2.1 (TX5 2).2.2.1 ∈ q_W), rfl, rfl, tyX5_ok, nmX5, fun _ => ⟨rfl, rfl⟩, rfl⟩
theorem fr_RX5_18 : q_FR RX5 18 5 3 := ⟨RX5, TX5, 5, tyX5, rfl, rfl, q_cl5, by decide, (q_inT 221 (by decide +kernel) rfl : Cond.fieldLink RX5 18 (TX5 3).1 (TX5 3).2.1 (TX5 3).2.2.1 ∈ q_W), rfl, rfl, tyX5_ok, nmX5, fun _ => ⟨rfl, rfl⟩, rfl⟩
theorem fr_RX5_21 : q_FR RX5 21 5 4 := ⟨RX5, TX5, 5, tyX5, rfl, rfl, q_cl5, by decide, (q_inT 223 (by decide +kernel) rfl : Cond.fieldLink RX5 21 (TX5 4).1 (TX5 4).2.1 (TX5 4).2.2.1 ∈ q_W), rfl, rfl, tyX5_ok, nmX5, fun _ => ⟨rfl, rfl⟩, rfl⟩
theorem gi_RX10_28 : GoodIn q_W (q_wc yX5_init cX5_init 1 none) ∧ (RX10, 28, yX5_init, "CutRepairer") ∈ q_nest ∧ Cond.instanceMethod yX5_init ∈ q_W ∧ Cond.initialized yX5_init.cls ∈ q_W ∧ yX5_init.name = "<init>" ∧ yX5_init.cls ≠ "java/lang/invoke/MethodHandle" ∧ yX5_init.cls ≠ "java/lang/invoke/VarHandle" ∧ (parseMethodDescriptor yX5_init.desc).map (fun d => d.parameters.length) = some 0 := ⟨q_gcode (q_inT 210 (by decide +kernel) rfl), List.mem_of_getElem? (i := 5) rfl, (q_inT 209 (by decide +kernel) rfl), (q_inT 7 (by decide +kernel) rfl), rfl, by decide +kernel⟩
theorem fr_RX10_29 : q_FR RX10 29 10 4 := ⟨RX10, TX10, 8, tyX10, rfl, rfl, q_cl10, by decide, (q_inT 358 (by decide +kernel) rfl : Cond.fieldLink RX10 29 (TX10 4).1 (TX10 4).2.1 (TX10 4).2.2.1 ∈ q_W), rfl, rfl, tyX10_ok, nmX10, fun _ => ⟨rfl, rfl⟩, rfl⟩
theorem nw_RX10_33 : q_NW RX10 33 1 := ⟨RX1, TX1, 3, tyX1, rfl, rfl, q_cl1, (q_inT 236 (by decide +kernel) rfl), (q_inT 237 (by decide +kernel) rfl), (q_inT 8 (by decide +kernel) rfl), tyX1_ok, by decide⟩
theorem oi_RX1_3 : Cond.methodLink RX1 3 Lib.objectInit ∈ q_W ∧ Cond.instanceMethod Lib.objectInit ∈ q_W ∧ Cond.code Lib.objectInit ⟨#[0xb1]⟩ 1 none ∈ q_W := ⟨(q_inT 241 (by decide +kernel) rfl), (q_inT 22 (by decide +kernel) rfl), (q_inT 23 (by decide +kernel) rfl)⟩
theorem fr_RX1_9 : q_FR RX1 9 1 0 := ⟨RX1, TX1, 3, tyX1, rfl, rfl, q_cl1, by decide, (q_inT 242 (by decide +kernel) rfl : Cond.fieldLink RX1 9 (TX1 0).1 (TX1 0).2.1 (TX1 0).2.2.1 ∈ q_W), rfl, rfl, tyX1_ok, nmX1, fun _ => ⟨rfl, rfl⟩, rfl⟩
theorem gi_RX10_35 : GoodIn q_W (q_wc yX1_init cX1_init 1 none) ∧ (RX10, 35, yX1_init, "CutRepairer") ∈ q_nest ∧ Cond.instanceMethod yX1_init ∈ q_W ∧ Cond.initialized yX1_init.cls ∈ q_W ∧ yX1_init.name = "<init>" ∧ yX1_init.cls ≠ "java/lang/invoke/MethodHandle" ∧ yX1_init.cls ≠ "java/lang/invoke/VarHandle" ∧ (parseMethodDescriptor yX1_init.desc).map (fun d => d.parameters.length) = some 0 := ⟨q_gcode (q_inT 240 (by decide +kernel) rfl), List.mem_of_getElem? (i := 6) rfl, (q_inT 239 (by decide +kernel) rfl), (q_inT 8 (by decide +kernel) rfl), rfl, by decide +kernel⟩
theorem fr_RX10_36 : q_FR RX10 36 10 5 := ⟨RX10, TX10, 8, tyX10, rfl, rfl, q_cl10, by decide, (q_inT 359 (by decide +kernel) rfl : Cond.fieldLink RX10 36 (TX10 5).1 (TX10 5).2.1 (TX10 5).2.2.1 ∈ q_W), rfl, rfl, tyX10_ok, nmX10, fun _ => ⟨rfl, rfl⟩, rfl⟩
theorem nw_RX10_40 : q_NW RX10 40 8 := ⟨RX8, TX8, 3, tyX8, rfl, rfl, q_cl8, (q_inT 258 (by decide +kernel) rfl), (q_inT 259 (by decide +kernel) rfl), (q_inT 9 (by decide +kernel) rfl), tyX8_ok, by decide⟩
theorem oi_RX8_3 : Cond.methodLink RX8 3 Lib.objectInit ∈ q_W ∧ Cond.instanceMethod Lib.objectInit ∈ q_W ∧ Cond.code Lib.objectInit ⟨#[0xb1]⟩ 1 none ∈ q_W := ⟨(q_inT 263 (by decide +kernel) rfl), (q_inT 22 (by decide +kernel) rfl), (q_inT 23 (by decide +kernel) rfl)⟩
theorem fr_RX8_9 : q_FR RX8 9 8 1 := ⟨RX8, TX8, 3, tyX8, rfl, rfl, q_cl8, by decide, (q_inT 267 (by decide +kernel) rfl : Cond.fieldLink RX8 9 (TX8 1).1 (TX8 1).2.1 (TX8 1).2.2.1 ∈ q_W), rfl, rfl, tyX8_ok, nmX8, fun _ => ⟨rfl, rfl⟩, rfl⟩
theorem fr_RX8_15 : q_FR RX8 15 8 2 := ⟨RX8, TX8, 3, tyX8, rfl, rfl, q_cl8, by decide, (q_inT 269 (by decide +kernel) rfl : Cond.fieldLink RX8 15 (TX8 2).1 (TX8 2).2.1 (TX8 2).2.2.1 ∈ q_W), rfl, rfl, tyX8_ok, nmX8, fun _ => ⟨rfl, rfl⟩, rfl⟩
theorem gi_RX10_42 : GoodIn q_W (q_wc yX8_init cX8_init 1 none) ∧ (RX10, 42, yX8_init, "CutRepairer") ∈ q_nest ∧ Cond.instanceMethod yX8_init ∈ q_W ∧ Cond.initialized yX8_init.cls ∈ q_W ∧ yX8_init.name = "<init>" ∧ yX8_init.cls ≠ "java/lang/invoke/MethodHandle" ∧ yX8_init.cls ≠ "java/lang/invoke/VarHandle" ∧ (parseMethodDescriptor yX8_init.desc).map (fun d => d.parameters.length) = some 0 := ⟨q_gcode (q_inT 262 (by decide +kernel) rfl), List.mem_of_getElem? (i := 7) rfl, (q_inT 261 (by decide +kernel) rfl), (q_inT 9 (by decide +kernel) rfl), rfl, by decide +kernel⟩
theorem fr_RX10_43 : q_FR RX10 43 10 6 := ⟨RX10, TX10, 8, tyX10, rfl, rfl, q_cl10, by decide, (q_inT 360 (by decide +kernel) rfl : Cond.fieldLink RX10 43 (TX10 6).1 (TX10 6).2.1 (TX10 6).2.2.1 ∈ q_W), rfl, rfl, tyX10_ok, nmX10, fun _ => ⟨rfl, rfl⟩, rfl⟩
theorem nw_RX10_47 : q_NW RX10 47 4 := ⟨RX4, TX4, 1, tyX4, rfl, rfl, q_cl4, (q_inT 278 (by decide +kernel) rfl), (q_inT 279 (by decide +kernel) rfl), (q_inT 10 (by decide +kernel) rfl), tyX4_ok, by decide⟩
theorem oi_RX4_3 : Cond.methodLink RX4 3 Lib.objectInit ∈ q_W ∧ Cond.instanceMethod Lib.objectInit ∈ q_W ∧ Cond.code Lib.objectInit ⟨#[0xb1]⟩ 1 none ∈ q_W := ⟨(q_inT 283 (by decide +kernel) rfl), (q_inT 22 (by decide +kernel) rfl), (q_inT 23 (by decide +kernel) rfl)⟩
theorem nw_RX4_9 : q_NW RX4 9 2 := ⟨RX2, TX2, 7, tyX2, rfl, rfl, q_cl2, (q_inT 284 (by decide +kernel) rfl), (q_inT 286 (by decide +kernel) rfl), (q_inT 11 (by decide +kernel) rfl), tyX2_ok, by decide⟩
theorem oi_RX2_3 : Cond.methodLink RX2 3 Lib.objectInit ∈ q_W ∧ Cond.instanceMethod Lib.objectInit ∈ q_W ∧ Cond.code Lib.objectInit ⟨#[0xb1]⟩ 1 none ∈ q_W := ⟨(q_inT 290 (by decide +kernel) rfl), (q_inT 22 (by decide +kernel) rfl), (q_inT 23 (by decide +kernel) rfl)⟩
theorem fr_RX2_11 : q_FR RX2 11 2 0 := ⟨RX2, TX2, 7, tyX2, rfl, rfl, q_cl2, by decide, (q_inT 291 (by decide +kernel) rfl : Cond.fieldLink RX2 11 (TX2 0).1 (TX2 0).2.1 (TX2 0).2.2.1 ∈ q_W), rfl, rfl, tyX2_ok, nmX2, fun _ => ⟨rfl, rfl⟩, rfl⟩
theorem fr_RX2_15 : q_FR RX2 15 2 1 := ⟨RX2, TX2, 7, tyX2, rfl, rfl, q_cl2, by decide, (q_inT 292 (by decide +kernel) rfl : Cond.fieldLink RX2 15 (TX2 1).1 (TX2 1).2.1 (TX2 1).2.2.1 ∈ q_W), rfl, rfl, tyX2_ok, nmX2, fun _ => ⟨rfl, rfl⟩, rfl⟩
theorem fr_RX2_18 : q_FR RX2 18 2 2 := ⟨RX2, TX2, 7, tyX2, rfl, rfl, q_cl2, by decide, (q_inT 293 (by decide +kernel) rfl : Cond.fieldLink RX2 18 (TX2 2).1 (TX2 2).2.1 (TX2 2).2.2.1 ∈ q_W), rfl, rfl, tyX2_ok, nmX2, fun _ => ⟨rfl, rfl⟩, rfl⟩
theorem fr_RX2_21 : q_FR RX2 21 2 3 := ⟨RX2, TX2, 7, tyX2, rfl, rfl, q_cl2, by decide, (q_inT 294 (by decide +kernel) rfl : Cond.fieldLink RX2 21 (TX2 3).1 (TX2 3).2.1 (TX2 3).2.2.1 ∈ q_W), rfl, rfl, tyX2_ok, nmX2, fun _ => ⟨rfl, rfl⟩, rfl⟩
theorem fr_RX2_25 : q_FR RX2 25 2 4 := ⟨RX2, TX2, 7, tyX2, rfl, rfl, q_cl2, by decide, (q_inT 295 (by decide +kernel) rfl : Cond.fieldLink RX2 25 (TX2 4).1 (TX2 4).2.1 (TX2 4).2.2.1 ∈ q_W), rfl, rfl, tyX2_ok, nmX2, fun _ => ⟨rfl, rfl⟩, rfl⟩
theorem fr_RX2_28 : q_FR RX2 28 2 5 := ⟨RX2, TX2, 7, tyX2, rfl, rfl, q_cl2, by decide, (q_inT 296 (by decide +kernel) rfl : Cond.fieldLink RX2 28 (TX2 5).1 (TX2 5).2.1 (TX2 5).2.2.1 ∈ q_W), rfl, rfl, tyX2_ok, nmX2, fun _ => ⟨rfl, rfl⟩, rfl⟩
theorem fr_RX2_31 : q_FR RX2 31 2 6 := ⟨RX2, TX2, 7, tyX2, rfl, rfl, q_cl2, by decide, (q_inT 297 (by decide +kernel) rfl : Cond.fieldLink RX2 31 (TX2 6).1 (TX2 6).2.1 (TX2 6).2.2.1 ∈ q_W), rfl, rfl, tyX2_ok, nmX2, fun _ => ⟨rfl, rfl⟩, rfl⟩
theorem gi_RX4_11 : GoodIn q_W (q_wc yX2_init cX2_init 1 none) ∧ (RX4, 11, yX2_init, "CutRepairer") ∈ q_nest ∧ Cond.instanceMethod yX2_init ∈ q_W ∧ Cond.initialized yX2_init.cls ∈ q_W ∧ yX2_init.name = "<init>" ∧ yX2_init.cls ≠ "java/lang/invoke/MethodHandle" ∧ yX2_init.cls ≠ "java/lang/invoke/VarHandle" ∧ (parseMethodDescriptor yX2_init.desc).map (fun d => d.parameters.length) = some 0 := ⟨q_gcode (q_inT 289 (by decide +kernel) rfl), List.mem_of_getElem? (i := 9) rfl, (q_inT 288 (by decide +kernel) rfl), (q_inT 11 (by decide +kernel) rfl), rfl, by decide +kernel⟩
theorem fr_RX4_12 : q_FR RX4 12 4 0 := ⟨RX4, TX4, 1, tyX4, rfl, rfl, q_cl4, by decide, (q_inT 314 (by decide +kernel) rfl : Cond.fieldLink RX4 12 (TX4 0).1 (TX4 0).2.1 (TX4 0).2.2.1 ∈ q_W), rfl, rfl, tyX4_ok, nmX4, fun _ => ⟨rfl, rfl⟩, rfl⟩
theorem gi_RX10_49 : GoodIn q_W (q_wc yX4_init cX4_init 1 none) ∧ (RX10, 49, yX4_init, "CutRepairer") ∈ q_nest ∧ Cond.instanceMethod yX4_init ∈ q_W ∧ Cond.initialized yX4_init.cls ∈ q_W ∧ yX4_init.name = "<init>" ∧ yX4_init.cls ≠ "java/lang/invoke/MethodHandle" ∧ yX4_init.cls ≠ "java/lang/invoke/VarHandle" ∧ (parseMethodDescriptor yX4_init.desc).map (fun d => d.parameters.length) = some 0 := ⟨q_gcode (q_inT 282 (by decide +kernel) rfl), List.mem_of_getElem? (i := 8) rfl, (q_inT 281 (by decide +kernel) rfl), (q_inT 10 (by decide +kernel) rfl), rfl, by decide +kernel⟩
theorem fr_RX10_50 : q_FR RX10 50 10 7 := ⟨RX10, TX10, 8, tyX10, rfl, rfl, q_cl10, by decide, (q_inT 361 (by decide +kernel) rfl : Cond.fieldLink RX10 50 (TX10 7).1 (TX10 7).2.1 (TX10 7).2.2.1 ∈ q_W), rfl, rfl, tyX10_ok, nmX10, fun _ => ⟨rfl, rfl⟩, rfl⟩
theorem oi_RX11_1 : Cond.methodLink RX11 1 Lib.objectInit ∈ q_W ∧ Cond.instanceMethod Lib.objectInit ∈ q_W ∧ Cond.code Lib.objectInit ⟨#[0xb1]⟩ 1 none ∈ q_W := ⟨(q_inT 952 (by decide +kernel) rfl), (q_inT 22 (by decide +kernel) rfl), (q_inT 23 (by decide +kernel) rfl)⟩
theorem fr_RX11_7 : q_FR RX11 7 11 1 := ⟨RX11, TX11, 31, tyX11, rfl, rfl, q_cl11, by decide, (q_inT 962 (by decide +kernel) rfl : Cond.fieldLink RX11 7 (TX11 1).1 (TX11 1).2.1 (TX11 1).2.2.1 ∈ q_W), rfl, rfl, tyX11_ok, nmX11, fun _ => ⟨rfl, rfl⟩, rfl⟩
theorem fr_RX11_13 : q_FR RX11 13 11 2 := ⟨RX11, TX11, 31, tyX11, rfl, rfl, q_cl11, by decide, (q_inT 963 (by decide +kernel) rfl : Cond.fieldLink RX11 13 (TX11 2).1 (TX11 2).2.1 (TX11 2).2.2.1 ∈ q_W), rfl, rfl, tyX11_ok, nmX11, fun _ => ⟨rfl, rfl⟩, rfl⟩
theorem fr_RX11_16 : q_FR RX11 16 11 5 := ⟨RX11, TX11, 31, tyX11, rfl, rfl, q_cl11, by decide, (q_inT 966 (by decide +kernel) rfl : Cond.fieldLink RX11 16 (TX11 5).1 (TX11 5).2.1 (TX11 5).2.2.1 ∈ q_W), rfl, rfl, tyX11_ok, nmX11, fun _ => ⟨rfl, rfl⟩, rfl⟩
theorem fr_RX11_20 : q_FR RX11 20 11 7 := ⟨RX11, TX11, 31, tyX11, rfl, rfl, q_cl11, by decide, (q_inT 968 (by decide +kernel) rfl : Cond.fieldLink RX11 20 (TX11 7).1 (TX11 7).2.1 (TX11 7).2.2.1 ∈ q_W), rfl, rfl, tyX11_ok, nmX11, fun _ => ⟨rfl, rfl⟩, rfl⟩
theorem fr_RX11_23 : q_FR RX11 23 11 8 := ⟨RX11, TX11, 31, tyX11, rfl, rfl, q_cl11, by decide, (q_inT 969 (by decide +kernel) rfl : Cond.fieldLink RX11 23 (TX11 8).1 (TX11 8).2.1 (TX11 8).2.2.1 ∈ q_W), rfl, rfl, tyX11_ok, nmX11, fun _ => ⟨rfl, rfl⟩, rfl⟩
theorem fr_RX11_26 : q_FR RX11 26 11 9 := ⟨RX11, TX11, 31, tyX11, rfl, rfl, q_cl11, by decide, (q_inT 970 (by decide +kernel) rfl : Cond.fieldLink RX11 26 (TX11 9).1 (TX11 9).2.1 (TX11 9).2.2.1 ∈ q_W), rfl, rfl, tyX11_ok, nmX11, fun _ => ⟨rfl, rfl⟩, rfl⟩
theorem fr_RX11_29 : q_FR RX11 29 11 10 := ⟨RX11, TX11, 31, tyX11, rfl, rfl, q_cl11, by decide, (q_inT 971 (by decide +kernel) rfl : Cond.fieldLink RX11 29 (TX11 10).1 (TX11 10).2.1 (TX11 10).2.2.1 ∈ q_W), rfl, rfl, tyX11_ok, nmX11, fun _ => ⟨rfl, rfl⟩, rfl⟩
theorem fr_RX11_32 : q_FR RX11 32 11 11 := ⟨RX11, TX11, 31, tyX11, rfl, rfl, q_cl11, by decide, (q_inT 972 (by decide +kernel) rfl : Cond.fieldLink RX11 32 (TX11 11).1 (TX11 11).2.1 (TX11 11).2.2.1 ∈ q_W), rfl, rfl, tyX11_ok, nmX11, fun _ => ⟨rfl, rfl⟩, rfl⟩
theorem fr_RX11_35 : q_FR RX11 35 11 15 := ⟨RX11, TX11, 31, tyX11, rfl, rfl, q_cl11, by decide, (q_inT 976 (by decide +kernel) rfl : Cond.fieldLink RX11 35 (TX11 15).1 (TX11 15).2.1 (TX11 15).2.2.1 ∈ q_W), rfl, rfl, tyX11_ok, nmX11, fun _ => ⟨rfl, rfl⟩, rfl⟩
theorem fr_RX11_38 : q_FR RX11 38 11 16 := ⟨RX11, TX11, 31, tyX11, rfl, rfl, q_cl11, by decide, (q_inT 977 (by decide +kernel) rfl : Cond.fieldLink RX11 38 (TX11 16).1 (TX11 16).2.1 (TX11 16).2.2.1 ∈ q_W), rfl, rfl, tyX11_ok, nmX11, fun _ => ⟨rfl, rfl⟩, rfl⟩
theorem fr_RX11_41 : q_FR RX11 41 11 17 := ⟨RX11, TX11, 31, tyX11, rfl, rfl, q_cl11, by decide, (q_inT 978 (by decide +kernel) rfl : Cond.fieldLink RX11 41 (TX11 17).1 (TX11 17).2.1 (TX11 17).2.2.1 ∈ q_W), rfl, rfl, tyX11_ok, nmX11, fun _ => ⟨rfl, rfl⟩, rfl⟩
theorem fr_RX11_44 : q_FR RX11 44 11 18 := ⟨RX11, TX11, 31, tyX11, rfl, rfl, q_cl11, by decide, (q_inT 979 (by decide +kernel) rfl : Cond.fieldLink RX11 44 (TX11 18).1 (TX11 18).2.1 (TX11 18).2.2.1 ∈ q_W), rfl, rfl, tyX11_ok, nmX11, fun _ => ⟨rfl, rfl⟩, rfl⟩
theorem fr_RX11_47 : q_FR RX11 47 11 19 := ⟨RX11, TX11, 31, tyX11, rfl, rfl, q_cl11, by decide, (q_inT 980 (by decide +kernel) rfl : Cond.fieldLink RX11 47 (TX11 19).1 (TX11 19).2.1 (TX11 19).2.2.1 ∈ q_W), rfl, rfl, tyX11_ok, nmX11, fun _ => ⟨rfl, rfl⟩, rfl⟩
theorem fr_RX11_50 : q_FR RX11 50 11 20 := ⟨RX11, TX11, 31, tyX11, rfl, rfl, q_cl11, by decide, (q_inT 981 (by decide +kernel) rfl : Cond.fieldLink RX11 50 (TX11 20).1 (TX11 20).2.1 (TX11 20).2.2.1 ∈ q_W), rfl, rfl, tyX11_ok, nmX11, fun _ => ⟨rfl, rfl⟩, rfl⟩
theorem fr_RX11_53 : q_FR RX11 53 11 21 := ⟨RX11, TX11, 31, tyX11, rfl, rfl, q_cl11, by decide, (q_inT 982 (by decide +kernel) rfl : Cond.fieldLink RX11 53 (TX11 21).1 (TX11 21).2.1 (TX11 21).2.2.1 ∈ q_W), rfl, rfl, tyX11_ok, nmX11, fun _ => ⟨rfl, rfl⟩, rfl⟩
theorem fr_RX11_56 : q_FR RX11 56 11 22 := ⟨RX11, TX11, 31, tyX11, rfl, rfl, q_cl11, by decide, (q_inT 983 (by decide +kernel) rfl : Cond.fieldLink RX11 56 (TX11 22).1 (TX11 22).2.1 (TX11 22).2.2.1 ∈ q_W), rfl, rfl, tyX11_ok, nmX11, fun _ => ⟨rfl, rfl⟩, rfl⟩
theorem fr_RX11_59 : q_FR RX11 59 11 25 := ⟨RX11, TX11, 31, tyX11, rfl, rfl, q_cl11, by decide, (q_inT 986 (by decide +kernel) rfl : Cond.fieldLink RX11 59 (TX11 25).1 (TX11 25).2.1 (TX11 25).2.2.1 ∈ q_W), rfl, rfl, tyX11_ok, nmX11, fun _ => ⟨rfl, rfl⟩, rfl⟩
theorem fr_RX11_63 : q_FR RX11 63 11 26 := ⟨RX11, TX11, 31, tyX11, rfl, rfl, q_cl11, by decide, (q_inT 987 (by decide +kernel) rfl : Cond.fieldLink RX11 63 (TX11 26).1 (TX11 26).2.1 (TX11 26).2.2.1 ∈ q_W), rfl, rfl, tyX11_ok, nmX11, fun _ => ⟨rfl, rfl⟩, rfl⟩
theorem fr_RX11_66 : q_FR RX11 66 11 27 := ⟨RX11, TX11, 31, tyX11, rfl, rfl, q_cl11, by decide, (q_inT 988 (by decide +kernel) rfl : Cond.fieldLink RX11 66 (TX11 27).1 (TX11 27).2.1 (TX11 27).2.2.1 ∈ q_W), rfl, rfl, tyX11_ok, nmX11, fun _ => ⟨rfl, rfl⟩, rfl⟩
theorem fr_RX11_69 : q_FR RX11 69 11 29 := ⟨RX11, TX11, 31, tyX11, rfl, rfl, q_cl11, by decide, (q_inT 990 (by decide +kernel) rfl : Cond.fieldLink RX11 69 (TX11 29).1 (TX11 29).2.1 (TX11 29).2.2.1 ∈ q_W), rfl, rfl, tyX11_ok, nmX11, fun _ => ⟨rfl, rfl⟩, rfl⟩
theorem fr_RX11_72 : q_FR RX11 72 11 30 := ⟨RX11, TX11, 31, tyX11, rfl, rfl, q_cl11, by decide, (q_inT 991 (by decide +kernel) rfl : Cond.fieldLink RX11 72 (TX11 30).1 (TX11 30).2.1 (TX11 30).2.2.1 ∈ q_W), rfl, rfl, tyX11_ok, nmX11, fun _ => ⟨rfl, rfl⟩, rfl⟩
set_option maxHeartbeats 4000000 in
set_option maxRecDepth 100000 in
theorem c_init_Hi_5 (l : Launch) (D : va_G) (dA : Nat → ClassId) {z : Nat} : Met l yX3_init (q_wc yX3_init cX3_init 1 none) ({ frames := 1, cells := 9, slots := 1205, locals := 20 } : Room) (va_Pc [.ref (z + 5)] (q_BO (q_P D dA q_kdC (q_rho (q_LC.drop 73)) 6 z (z + 6) q_O) D dA)) (q_Q none True (q_P D dA q_kdC (q_rho (q_LC.drop 64)) 15 z (z + 15) q_O) (q_A z 77)) 9 1205 (q_A z 77) := by
  refine Met.ofW (cc := cX3_init) (maxL := 1) (ret := none) (by decide) rfl ?_
  intro p e s m args below meth c s₁ B hml hv
  obtain ⟨hargs, hP, hK, hO⟩ := hv
  have hx := B.exec
  have hb := B.bytes
  have hr := B.returns
  have hts : ∀ w ∈ q_W, w.before args s = true := fun w hw => atoms_spec (ws := q_wc yX3_init cX3_init 1 none) B.pre w (List.mem_cons_of_mem _ hw)
  have hown : s.vm.findClass RX3 = some m.cls := findClass_of_methodNamed B.named
  have hlocks := B.notSynchronized
  have hin : meth.name = "<init>" := (name_of_methodNamed B.named B.method).1
  have hS : va_S (q_A z 77) s.heap s.heap [] := va_S.rf
  have hA : ∀ k, k < 77 → q_A z 77 (z + k) := fun k hk => ⟨Nat.le_add_right z k, Nat.add_lt_add_left hk z⟩
  have hl := lv_entry [.ref (z + 5)] (n := 1) (Nat.le_of_ble_eq_true rfl)
  refine W.eq (by rw [hargs, lg_entry_eq]) ?_
  generalize (lg_sl [.ref (z + 5)] ++ List.replicate (1 - (lg_sl [.ref (z + 5)]).length) Slot.unset).toArray = ls at hl ⊢
  have hl : lv_has ls 1 [(0, .ref (z + 5))] := hl
  change W p l e ({ frames := 1, cells := 9, slots := 1205, locals := 20 } : Room) s m args below meth c s.heap [] 0 0 _ (F0 m 0 ls [])
  refine lv_aload_n hx hb dX3_init_0 rfl (lv_at hl 0 rfl) ?_
  refine W.objInit hx hb hown (hts _ oi_RX3_3.1) (hts _ oi_RX3_3.2.1) (hts _ oi_RX3_3.2.2) rfl (by rw [hml]; exact hl.1) rfl dX3_init_1 (Nat.le_of_ble_eq_true rfl) (Nat.le_of_ble_eq_true rfl) ?_
  refine W.eq (g2 := F0 m 4 ls []) rfl ?_
  refine lv_aload_n hx hb dX3_init_4 rfl (lv_at hl 0 rfl) ?_
  refine lv_bipush (v := q_I 100) hx hb dX3_init_5 (by decide) ?_
  refine q_newa (t := 1) (len := 100) (cells' := 1) (slots' := 100) hx hb hts hK hP hS (by decide) aw_1 q_kdC_6 (fun _ => rfl) (Nat.le_of_ble_eq_true rfl) rfl rfl (Nat.le_of_ble_eq_true rfl) (Nat.le_of_ble_eq_true rfl) rfl dX3_init_7 ?_
  clear hP hS; intro H hP hS
  replace hP : q_P D dA q_kdC (q_rho (q_LC.drop 73)) 7 z (z + 7) q_O H := hP
  refine q_putR (L := q_LC.drop 73) (L' := q_LC.drop 72) hx hb hts hown hin hK hP hS (fun k hk => hA k (Nat.lt_of_lt_of_le hk (Nat.le_of_ble_eq_true rfl))) fr_RX3_9 (Nat.le_of_ble_eq_true rfl) q_kdC_5 rfl dX3_init_9 ?_
  clear hP hS; intro H locs hP hS
  replace hP : q_P D dA q_kdC (q_rho (q_LC.drop 72)) 7 z (z + 7) q_O H := hP
  refine lv_aload_n hx hb dX3_init_12 rfl (lv_at hl 0 rfl) ?_
  refine lv_bipush (v := q_I 100) hx hb dX3_init_13 (by decide) ?_
  refine q_newa (t := 1) (len := 100) (cells' := 2) (slots' := 200) hx hb hts hK hP hS (by decide) aw_1 q_kdC_7 (fun _ => rfl) (Nat.le_of_ble_eq_true rfl) rfl rfl (Nat.le_of_ble_eq_true rfl) (Nat.le_of_ble_eq_true rfl) rfl dX3_init_15 ?_
  clear hP hS; intro H hP hS
  replace hP : q_P D dA q_kdC (q_rho (q_LC.drop 72)) 8 z (z + 8) q_O H := hP
  refine q_putR (L := q_LC.drop 72) (L' := q_LC.drop 71) hx hb hts hown hin hK hP hS (fun k hk => hA k (Nat.lt_of_lt_of_le hk (Nat.le_of_ble_eq_true rfl))) fr_RX3_15 (Nat.le_of_ble_eq_true rfl) q_kdC_5 rfl dX3_init_17 ?_
  clear hP hS; intro H locs hP hS
  replace hP : q_P D dA q_kdC (q_rho (q_LC.drop 71)) 8 z (z + 8) q_O H := hP
  refine lv_aload_n hx hb dX3_init_20 rfl (lv_at hl 0 rfl) ?_
  refine lv_bipush (v := q_I 100) hx hb dX3_init_21 (by decide) ?_
  refine q_newa (t := 1) (len := 100) (cells' := 3) (slots' := 300) hx hb hts hK hP hS (by decide) aw_1 q_kdC_8 (fun _ => rfl) (Nat.le_of_ble_eq_true rfl) rfl rfl (Nat.le_of_ble_eq_true rfl) (Nat.le_of_ble_eq_true rfl) rfl dX3_init_23 ?_
  clear hP hS; intro H hP hS
  replace hP : q_P D dA q_kdC (q_rho (q_LC.drop 71)) 9 z (z + 9) q_O H := hP
  refine q_putR (L := q_LC.drop 71) (L' := q_LC.drop 70) hx hb hts hown hin hK hP hS (fun k hk => hA k (Nat.lt_of_lt_of_le hk (Nat.le_of_ble_eq_true rfl))) fr_RX3_18 (Nat.le_of_ble_eq_true rfl) q_kdC_5 rfl dX3_init_25 ?_
  clear hP hS; intro H locs hP hS
  replace hP : q_P D dA q_kdC (q_rho (q_LC.drop 70)) 9 z (z + 9) q_O H := hP
  refine lv_aload_n hx hb dX3_init_28 rfl (lv_at hl 0 rfl) ?_
  refine lv_bipush (v := q_I 100) hx hb dX3_init_29 (by decide) ?_
  refine q_newa (t := 1) (len := 100) (cells' := 4) (slots' := 400) hx hb hts hK hP hS (by decide) aw_1 q_kdC_9 (fun _ => rfl) (Nat.le_of_ble_eq_true rfl) rfl rfl (Nat.le_of_ble_eq_true rfl) (Nat.le_of_ble_eq_true rfl) rfl dX3_init_31 ?_
  clear hP hS; intro H hP hS
  replace hP : q_P D dA q_kdC (q_rho (q_LC.drop 70)) 10 z (z + 10) q_O H := hP
  refine q_putR (L := q_LC.drop 70) (L' := q_LC.drop 69) hx hb hts hown hin hK hP hS (fun k hk => hA k (Nat.lt_of_lt_of_le hk (Nat.le_of_ble_eq_true rfl))) fr_RX3_21 (Nat.le_of_ble_eq_true rfl) q_kdC_5 rfl dX3_init_33 ?_
  clear hP hS; intro H locs hP hS
  replace hP : q_P D dA q_kdC (q_rho (q_LC.drop 69)) 10 z (z + 10) q_O H := hP
  refine lv_aload_n hx hb dX3_init_36 rfl (lv_at hl 0 rfl) ?_
  refine lv_bipush (v := q_I 100) hx hb dX3_init_37 (by decide) ?_
  refine q_newa (t := 1) (len := 100) (cells' := 5) (slots' := 500) hx hb hts hK hP hS (by decide) aw_1 q_kdC_10 (fun _ => rfl) (Nat.le_of_ble_eq_true rfl) rfl rfl (Nat.le_of_ble_eq_true rfl) (Nat.le_of_ble_eq_true rfl) rfl dX3_init_39 ?_
  clear hP hS; intro H hP hS
  replace hP : q_P D dA q_kdC (q_rho (q_LC.drop 69)) 11 z (z + 11) q_O H := hP
  refine q_putR (L := q_LC.drop 69) (L' := q_LC.drop 68) hx hb hts hown hin hK hP hS (fun k hk => hA k (Nat.lt_of_lt_of_le hk (Nat.le_of_ble_eq_true rfl))) fr_RX3_24 (Nat.le_of_ble_eq_true rfl) q_kdC_5 rfl dX3_init_41 ?_
  clear hP hS; intro H locs hP hS
  replace hP : q_P D dA q_kdC (q_rho (q_LC.drop 68)) 11 z (z + 11) q_O H := hP
  refine lv_aload_n hx hb dX3_init_44 rfl (lv_at hl 0 rfl) ?_
  refine lv_bipush (v := q_I 100) hx hb dX3_init_45 (by decide) ?_
  refine q_newa (t := 1) (len := 100) (cells' := 6) (slots' := 600) hx hb hts hK hP hS (by decide) aw_1 q_kdC_11 (fun _ => rfl) (Nat.le_of_ble_eq_true rfl) rfl rfl (Nat.le_of_ble_eq_true rfl) (Nat.le_of_ble_eq_true rfl) rfl dX3_init_47 ?_
  clear hP hS; intro H hP hS
  replace hP : q_P D dA q_kdC (q_rho (q_LC.drop 68)) 12 z (z + 12) q_O H := hP
  refine q_putR (L := q_LC.drop 68) (L' := q_LC.drop 67) hx hb hts hown hin hK hP hS (fun k hk => hA k (Nat.lt_of_lt_of_le hk (Nat.le_of_ble_eq_true rfl))) fr_RX3_27 (Nat.le_of_ble_eq_true rfl) q_kdC_5 rfl dX3_init_49 ?_
  clear hP hS; intro H locs hP hS
  replace hP : q_P D dA q_kdC (q_rho (q_LC.drop 67)) 12 z (z + 12) q_O H := hP
  refine lv_aload_n hx hb dX3_init_52 rfl (lv_at hl 0 rfl) ?_
  refine lv_bipush (v := q_I 100) hx hb dX3_init_53 (by decide) ?_
  refine q_newa (t := 1) (len := 100) (cells' := 7) (slots' := 700) hx hb hts hK hP hS (by decide) aw_1 q_kdC_12 (fun _ => rfl) (Nat.le_of_ble_eq_true rfl) rfl rfl (Nat.le_of_ble_eq_true rfl) (Nat.le_of_ble_eq_true rfl) rfl dX3_init_55 ?_
  clear hP hS; intro H hP hS
  replace hP : q_P D dA q_kdC (q_rho (q_LC.drop 67)) 13 z (z + 13) q_O H := hP
  refine q_putR (L := q_LC.drop 67) (L' := q_LC.drop 66) hx hb hts hown hin hK hP hS (fun k hk => hA k (Nat.lt_of_lt_of_le hk (Nat.le_of_ble_eq_true rfl))) fr_RX3_30 (Nat.le_of_ble_eq_true rfl) q_kdC_5 rfl dX3_init_57 ?_
  clear hP hS; intro H locs hP hS
  replace hP : q_P D dA q_kdC (q_rho (q_LC.drop 66)) 13 z (z + 13) q_O H := hP
  refine lv_aload_n hx hb dX3_init_60 rfl (lv_at hl 0 rfl) ?_
  refine lv_sipush (v := q_I 500) hx hb dX3_init_61 (by decide) ?_
  refine q_newa (t := 1) (len := 500) (cells' := 8) (slots' := 1200) hx hb hts hK hP hS (by decide) aw_1 q_kdC_13 (fun _ => rfl) (Nat.le_of_ble_eq_true rfl) rfl rfl (Nat.le_of_ble_eq_true rfl) (Nat.le_of_ble_eq_true rfl) rfl dX3_init_64 ?_
  clear hP hS; intro H hP hS
  replace hP : q_P D dA q_kdC (q_rho (q_LC.drop 66)) 14 z (z + 14) q_O H := hP
  refine q_putR (L := q_LC.drop 66) (L' := q_LC.drop 65) hx hb hts hown hin hK hP hS (fun k hk => hA k (Nat.lt_of_lt_of_le hk (Nat.le_of_ble_eq_true rfl))) fr_RX3_33 (Nat.le_of_ble_eq_true rfl) q_kdC_5 rfl dX3_init_66 ?_
  clear hP hS; intro H locs hP hS
  replace hP : q_P D dA q_kdC (q_rho (q_LC.drop 65)) 14 z (z + 14) q_O H := hP
  refine lv_aload_n hx hb dX3_init_69 rfl (lv_at hl 0 rfl) ?_
  refine lv_iconst (v := q_I 5) hx hb dX3_init_70 rfl ?_
  refine q_newa (t := 1) (len := 5) (cells' := 9) (slots' := 1205) hx hb hts hK hP hS (by decide) aw_1 q_kdC_14 (fun _ => rfl) (Nat.le_of_ble_eq_true rfl) rfl rfl (Nat.le_of_ble_eq_true rfl) (Nat.le_of_ble_eq_true rfl) rfl dX3_init_71 ?_
  clear hP hS; intro H hP hS
  replace hP : q_P D dA q_kdC (q_rho (q_LC.drop 65)) 15 z (z + 15) q_O H := hP
  refine q_putR (L := q_LC.drop 65) (L' := q_LC.drop 64) hx hb hts hown hin hK hP hS (fun k hk => hA k (Nat.lt_of_lt_of_le hk (Nat.le_of_ble_eq_true rfl))) fr_RX3_36 (Nat.le_of_ble_eq_true rfl) q_kdC_5 rfl dX3_init_73 ?_
  clear hP hS; intro H locs hP hS
  replace hP : q_P D dA q_kdC (q_rho (q_LC.drop 64)) 15 z (z + 15) q_O H := hP
  exact q_retv hx hb hr hlocks hP hS rfl dX3_init_76
set_option maxHeartbeats 4000000 in
set_option maxRecDepth 100000 in
theorem c_init_Ch_15 (l : Launch) (D : va_G) (dA : Nat → ClassId) {z : Nat} : Met l yX0_init (q_wc yX0_init cX0_init 1 none) ({ frames := 1, cells := 6, slots := 2585, locals := 20 } : Room) (va_Pc [.ref (z + 15)] (q_BO (q_P D dA q_kdC (q_rho (q_LC.drop 63)) 16 z (z + 16) q_O) D dA)) (q_Q none True (q_P D dA q_kdC (q_rho (q_LC.drop 57)) 22 z (z + 22) q_O) (q_A z 77)) 6 2585 (q_A z 77) := by
  refine Met.ofW (cc := cX0_init) (maxL := 1) (ret := none) (by decide) rfl ?_
  intro p e s m args below meth c s₁ B hml hv
  obtain ⟨hargs, hP, hK, hO⟩ := hv
  have hx := B.exec
  have hb := B.bytes
  have hr := B.returns
  have hts : ∀ w ∈ q_W, w.before args s = true := fun w hw => atoms_spec (ws := q_wc yX0_init cX0_init 1 none) B.pre w (List.mem_cons_of_mem _ hw)
  have hown : s.vm.findClass RX0 = some m.cls := findClass_of_methodNamed B.named
  have hlocks := B.notSynchronized
  have hin : meth.name = "<init>" := (name_of_methodNamed B.named B.method).1
  have hS : va_S (q_A z 77) s.heap s.heap [] := va_S.rf
  have hA : ∀ k, k < 77 → q_A z 77 (z + k) := fun k hk => ⟨Nat.le_add_right z k, Nat.add_lt_add_left hk z⟩
  have hl := lv_entry [.ref (z + 15)] (n := 1) (Nat.le_of_ble_eq_true rfl)
  refine W.eq (by rw [hargs, lg_entry_eq]) ?_
  generalize (lg_sl [.ref (z + 15)] ++ List.replicate (1 - (lg_sl [.ref (z + 15)]).length) Slot.unset).toArray = ls at hl ⊢
  have hl : lv_has ls 1 [(0, .ref (z + 15))] := hl
  change W p l e ({ frames := 1, cells := 6, slots := 2585, locals := 20 } : Room) s m args below meth c s.heap [] 0 0 _ (F0 m 0 ls [])
  refine lv_aload_n hx hb dX0_init_0 rfl (lv_at hl 0 rfl) ?_
  refine W.objInit hx hb hown (hts _ oi_RX0_3.1) (hts _ oi_RX0_3.2.1) (hts _ oi_RX0_3.2.2) rfl (by rw [hml]; exact hl.1) rfl dX0_init_1 (Nat.le_of_ble_eq_true rfl) (Nat.le_of_ble_eq_true rfl) ?_
  refine W.eq (g2 := F0 m 4 ls []) rfl ?_
  refine lv_aload_n hx hb dX0_init_4 rfl (lv_at hl 0 rfl) ?_
  refine lv_sipush (v := q_I 512) hx hb dX0_init_5 (by decide) ?_
  refine q_newa (t := 1) (len := 512) (cells' := 1) (slots' := 512) hx hb hts hK hP hS (by decide) aw_1 q_kdC_16 (fun _ => rfl) (Nat.le_of_ble_eq_true rfl) rfl rfl (Nat.le_of_ble_eq_true rfl) (Nat.le_of_ble_eq_true rfl) rfl dX0_init_8 ?_
  clear hP hS; intro H hP hS
  replace hP : q_P D dA q_kdC (q_rho (q_LC.drop 63)) 17 z (z + 17) q_O H := hP
  refine q_putR (L := q_LC.drop 63) (L' := q_LC.drop 62) hx hb hts hown hin hK hP hS (fun k hk => hA k (Nat.lt_of_lt_of_le hk (Nat.le_of_ble_eq_true rfl))) fr_RX0_9 (Nat.le_of_ble_eq_true rfl) q_kdC_15 rfl dX0_init_10 ?_
  clear hP hS; intro H locs hP hS
  replace hP : q_P D dA q_kdC (q_rho (q_LC.drop 62)) 17 z (z + 17) q_O H := hP
  refine lv_aload_n hx hb dX0_init_13 rfl (lv_at hl 0 rfl) ?_
  refine lv_sipush (v := q_I 512) hx hb dX0_init_14 (by decide) ?_
  refine q_newa (t := 1) (len := 512) (cells' := 2) (slots' := 1024) hx hb hts hK hP hS (by decide) aw_1 q_kdC_17 (fun _ => rfl) (Nat.le_of_ble_eq_true rfl) rfl rfl (Nat.le_of_ble_eq_true rfl) (Nat.le_of_ble_eq_true rfl) rfl dX0_init_17 ?_
  clear hP hS; intro H hP hS
  replace hP : q_P D dA q_kdC (q_rho (q_LC.drop 62)) 18 z (z + 18) q_O H := hP
  refine q_putR (L := q_LC.drop 62) (L' := q_LC.drop 61) hx hb hts hown hin hK hP hS (fun k hk => hA k (Nat.lt_of_lt_of_le hk (Nat.le_of_ble_eq_true rfl))) fr_RX0_15 (Nat.le_of_ble_eq_true rfl) q_kdC_15 rfl dX0_init_19 ?_
  clear hP hS; intro H locs hP hS
  replace hP : q_P D dA q_kdC (q_rho (q_LC.drop 61)) 18 z (z + 18) q_O H := hP
  refine lv_aload_n hx hb dX0_init_22 rfl (lv_at hl 0 rfl) ?_
  refine lv_sipush (v := q_I 512) hx hb dX0_init_23 (by decide) ?_
  refine q_newa (t := 1) (len := 512) (cells' := 3) (slots' := 1536) hx hb hts hK hP hS (by decide) aw_1 q_kdC_18 (fun _ => rfl) (Nat.le_of_ble_eq_true rfl) rfl rfl (Nat.le_of_ble_eq_true rfl) (Nat.le_of_ble_eq_true rfl) rfl dX0_init_26 ?_
  clear hP hS; intro H hP hS
  replace hP : q_P D dA q_kdC (q_rho (q_LC.drop 61)) 19 z (z + 19) q_O H := hP
  refine q_putR (L := q_LC.drop 61) (L' := q_LC.drop 60) hx hb hts hown hin hK hP hS (fun k hk => hA k (Nat.lt_of_lt_of_le hk (Nat.le_of_ble_eq_true rfl))) fr_RX0_18 (Nat.le_of_ble_eq_true rfl) q_kdC_15 rfl dX0_init_28 ?_
  clear hP hS; intro H locs hP hS
  replace hP : q_P D dA q_kdC (q_rho (q_LC.drop 60)) 19 z (z + 19) q_O H := hP
  refine lv_aload_n hx hb dX0_init_31 rfl (lv_at hl 0 rfl) ?_
  refine lv_sipush (v := q_I 512) hx hb dX0_init_32 (by decide) ?_
  refine q_newa (t := 1) (len := 512) (cells' := 4) (slots' := 2048) hx hb hts hK hP hS (by decide) aw_1 q_kdC_19 (fun _ => rfl) (Nat.le_of_ble_eq_true rfl) rfl rfl (Nat.le_of_ble_eq_true rfl) (Nat.le_of_ble_eq_true rfl) rfl dX0_init_35 ?_
  clear hP hS; intro H hP hS
  replace hP : q_P D dA q_kdC (q_rho (q_LC.drop 60)) 20 z (z + 20) q_O H := hP
  refine q_putR (L := q_LC.drop 60) (L' := q_LC.drop 59) hx hb hts hown hin hK hP hS (fun k hk => hA k (Nat.lt_of_lt_of_le hk (Nat.le_of_ble_eq_true rfl))) fr_RX0_21 (Nat.le_of_ble_eq_true rfl) q_kdC_15 rfl dX0_init_37 ?_
  clear hP hS; intro H locs hP hS
  replace hP : q_P D dA q_kdC (q_rho (q_LC.drop 59)) 20 z (z + 20) q_O H := hP
  refine lv_aload_n hx hb dX0_init_40 rfl (lv_at hl 0 rfl) ?_
  refine lv_sipush (v := q_I 512) hx hb dX0_init_41 (by decide) ?_
  refine q_newa (t := 1) (len := 512) (cells' := 5) (slots' := 2560) hx hb hts hK hP hS (by decide) aw_1 q_kdC_20 (fun _ => rfl) (Nat.le_of_ble_eq_true rfl) rfl rfl (Nat.le_of_ble_eq_true rfl) (Nat.le_of_ble_eq_true rfl) rfl dX0_init_44 ?_
  clear hP hS; intro H hP hS
  replace hP : q_P D dA q_kdC (q_rho (q_LC.drop 59)) 21 z (z + 21) q_O H := hP
  refine q_putR (L := q_LC.drop 59) (L' := q_LC.drop 58) hx hb hts hown hin hK hP hS (fun k hk => hA k (Nat.lt_of_lt_of_le hk (Nat.le_of_ble_eq_true rfl))) fr_RX0_24 (Nat.le_of_ble_eq_true rfl) q_kdC_15 rfl dX0_init_46 ?_
  clear hP hS; intro H locs hP hS
  replace hP : q_P D dA q_kdC (q_rho (q_LC.drop 58)) 21 z (z + 21) q_O H := hP
  refine lv_aload_n hx hb dX0_init_49 rfl (lv_at hl 0 rfl) ?_
  refine lv_bipush (v := q_I 25) hx hb dX0_init_50 (by decide) ?_
  refine q_newa (t := 1) (len := 25) (cells' := 6) (slots' := 2585) hx hb hts hK hP hS (by decide) aw_1 q_kdC_21 (fun _ => rfl) (Nat.le_of_ble_eq_true rfl) rfl rfl (Nat.le_of_ble_eq_true rfl) (Nat.le_of_ble_eq_true rfl) rfl dX0_init_52 ?_
  clear hP hS; intro H hP hS
  replace hP : q_P D dA q_kdC (q_rho (q_LC.drop 58)) 22 z (z + 22) q_O H := hP
  refine q_putR (L := q_LC.drop 58) (L' := q_LC.drop 57) hx hb hts hown hin hK hP hS (fun k hk => hA k (Nat.lt_of_lt_of_le hk (Nat.le_of_ble_eq_true rfl))) fr_RX0_27 (Nat.le_of_ble_eq_true rfl) q_kdC_15 rfl dX0_init_54 ?_
  clear hP hS; intro H locs hP hS
  replace hP : q_P D dA q_kdC (q_rho (q_LC.drop 57)) 22 z (z + 22) q_O H := hP
  exact q_retv hx hb hr hlocks hP hS rfl dX0_init_57
set_option maxHeartbeats 4000000 in
set_option maxRecDepth 100000 in
theorem c_init_Sn_22 (l : Launch) (D : va_G) (dA : Nat → ClassId) {z : Nat} : Met l yX7_init (q_wc yX7_init cX7_init 1 none) ({ frames := 1, cells := 1, slots := 5, locals := 20 } : Room) (va_Pc [.ref (z + 22)] (q_BO (q_P D dA q_kdC (q_rho (q_LC.drop 56)) 23 z (z + 23) q_O) D dA)) (q_Q none True (q_P D dA q_kdC (q_rho (q_LC.drop 55)) 24 z (z + 24) q_O) (q_A z 77)) 1 5 (q_A z 77) := by
  refine Met.ofW (cc := cX7_init) (maxL := 1) (ret := none) (by decide) rfl ?_
  intro p e s m args below meth c s₁ B hml hv
  obtain ⟨hargs, hP, hK, hO⟩ := hv
  have hx := B.exec
  have hb := B.bytes
  have hr := B.returns
  have hts : ∀ w ∈ q_W, w.before args s = true := fun w hw => atoms_spec (ws := q_wc yX7_init cX7_init 1 none) B.pre w (List.mem_cons_of_mem _ hw)
  have hown : s.vm.findClass RX7 = some m.cls := findClass_of_methodNamed B.named
  have hlocks := B.notSynchronized
  have hin : meth.name = "<init>" := (name_of_methodNamed B.named B.method).1
  have hS : va_S (q_A z 77) s.heap s.heap [] := va_S.rf
  have hA : ∀ k, k < 77 → q_A z 77 (z + k) := fun k hk => ⟨Nat.le_add_right z k, Nat.add_lt_add_left hk z⟩
  have hl := lv_entry [.ref (z + 22)] (n := 1) (Nat.le_of_ble_eq_true rfl)
  refine W.eq (by rw [hargs, lg_entry_eq]) ?_
  generalize (lg_sl [.ref (z + 22)] ++ List.replicate (1 - (lg_sl [.ref (z + 22)]).length) Slot.unset).toArray = ls at hl ⊢
  have hl : lv_has ls 1 [(0, .ref (z + 22))] := hl
  change W p l e ({ frames := 1, cells := 1, slots := 5, locals := 20 } : Room) s m args below meth c s.heap [] 0 0 _ (F0 m 0 ls [])
  refine lv_aload_n hx hb dX7_init_0 rfl (lv_at hl 0 rfl) ?_
  refine W.objInit hx hb hown (hts _ oi_RX7_3.1) (hts _ oi_RX7_3.2.1) (hts _ oi_RX7_3.2.2) rfl (by rw [hml]; exact hl.1) rfl dX7_init_1 (Nat.le_of_ble_eq_true rfl) (Nat.le_of_ble_eq_true rfl) ?_
  refine W.eq (g2 := F0 m 4 ls []) rfl ?_
  refine lv_aload_n hx hb dX7_init_4 rfl (lv_at hl 0 rfl) ?_
  refine lv_iconst (v := q_I 5) hx hb dX7_init_5 rfl ?_
  refine q_newa (t := 1) (len := 5) (cells' := 1) (slots' := 5) hx hb hts hK hP hS (by decide) aw_1 q_kdC_23 (fun _ => rfl) (Nat.le_of_ble_eq_true rfl) rfl rfl (Nat.le_of_ble_eq_true rfl) (Nat.le_of_ble_eq_true rfl) rfl dX7_init_6 ?_
  clear hP hS; intro H hP hS
  replace hP : q_P D dA q_kdC (q_rho (q_LC.drop 56)) 24 z (z + 24) q_O H := hP
  refine q_putR (L := q_LC.drop 56) (L' := q_LC.drop 55) hx hb hts hown hin hK hP hS (fun k hk => hA k (Nat.lt_of_lt_of_le hk (Nat.le_of_ble_eq_true rfl))) fr_RX7_9 (Nat.le_of_ble_eq_true rfl) q_kdC_22 rfl dX7_init_8 ?_
  clear hP hS; intro H locs hP hS
  replace hP : q_P D dA q_kdC (q_rho (q_LC.drop 55)) 24 z (z + 24) q_O H := hP
  exact q_retv hx hb hr hlocks hP hS rfl dX7_init_11
set_option maxHeartbeats 4000000 in
set_option maxRecDepth 100000 in
theorem c_init_Wo_1 (l : Launch) (D : va_G) (dA : Nat → ClassId) {z : Nat} : Met l yX9_init (q_wc yX9_init cX9_init 1 none) ({ frames := 2, cells := 22, slots := 3839, locals := 40 } : Room) (va_Pc [.ref (z + 1)] (q_BO (q_P D dA q_kdC (q_rho (q_LC.drop 76)) 2 z (z + 2) q_O) D dA)) (q_Q none True (q_P D dA q_kdC (q_rho (q_LC.drop 54)) 24 z (z + 24) q_O) (q_A z 77)) 22 3839 (q_A z 77) := by
  refine Met.ofW (cc := cX9_init) (maxL := 1) (ret := none) (by decide) rfl ?_
  intro p e s m args below meth c s₁ B hml hv
  obtain ⟨hargs, hP, hK, hO⟩ := hv
  have hx := B.exec
  have hb := B.bytes
  have hr := B.returns
  have hts : ∀ w ∈ q_W, w.before args s = true := fun w hw => atoms_spec (ws := q_wc yX9_init cX9_init 1 none) B.pre w (List.mem_cons_of_mem _ hw)
  have hown : s.vm.findClass RX9 = some m.cls := findClass_of_methodNamed B.named
  have hlocks := B.notSynchronized
  have hin : meth.name = "<init>" := (name_of_methodNamed B.named B.method).1
  have hS : va_S (q_A z 77) s.heap s.heap [] := va_S.rf
  have hA : ∀ k, k < 77 → q_A z 77 (z + k) := fun k hk => ⟨Nat.le_add_right z k, Nat.add_lt_add_left hk z⟩
  have hl := lv_entry [.ref (z + 1)] (n := 1) (Nat.le_of_ble_eq_true rfl)
  refine W.eq (by rw [hargs, lg_entry_eq]) ?_
  generalize (lg_sl [.ref (z + 1)] ++ List.replicate (1 - (lg_sl [.ref (z + 1)]).length) Slot.unset).toArray = ls at hl ⊢
  have hl : lv_has ls 1 [(0, .ref (z + 1))] := hl
  change W p l e ({ frames := 2, cells := 22, slots := 3839, locals := 40 } : Room) s m args below meth c s.heap [] 0 0 _ (F0 m 0 ls [])
  refine lv_aload_n hx hb dX9_init_0 rfl (lv_at hl 0 rfl) ?_
  refine W.objInit hx hb hown (hts _ oi_RX9_3.1) (hts _ oi_RX9_3.2.1) (hts _ oi_RX9_3.2.2) rfl (by rw [hml]; exact hl.1) rfl dX9_init_1 (Nat.le_of_ble_eq_true rfl) (Nat.le_of_ble_eq_true rfl) ?_
  refine W.eq (g2 := F0 m 4 ls []) rfl ?_
  refine lv_aload_n hx hb dX9_init_4 rfl (lv_at hl 0 rfl) ?_
  refine lv_bipush (v := q_I 10) hx hb dX9_init_5 (by decide) ?_
  refine q_newa (t := 1) (len := 10) (cells' := 1) (slots' := 10) hx hb hts hK hP hS (by decide) aw_1 q_kdC_2 (fun _ => rfl) (Nat.le_of_ble_eq_true rfl) rfl rfl (Nat.le_of_ble_eq_true rfl) (Nat.le_of_ble_eq_true rfl) rfl dX9_init_7 ?_
  clear hP hS; intro H hP hS
  replace hP : q_P D dA q_kdC (q_rho (q_LC.drop 76)) 3 z (z + 3) q_O H := hP
  refine q_putR (L := q_LC.drop 76) (L' := q_LC.drop 75) hx hb hts hown hin hK hP hS (fun k hk => hA k (Nat.lt_of_lt_of_le hk (Nat.le_of_ble_eq_true rfl))) fr_RX9_9 (Nat.le_of_ble_eq_true rfl) q_kdC_1 rfl dX9_init_9 ?_
  clear hP hS; intro H locs hP hS
  replace hP : q_P D dA q_kdC (q_rho (q_LC.drop 75)) 3 z (z + 3) q_O H := hP
  refine lv_aload_n hx hb dX9_init_12 rfl (lv_at hl 0 rfl) ?_
  refine lv_bipush (v := q_I 10) hx hb dX9_init_13 (by decide) ?_
  refine q_newa (t := 1) (len := 10) (cells' := 2) (slots' := 20) hx hb hts hK hP hS (by decide) aw_1 q_kdC_3 (fun _ => rfl) (Nat.le_of_ble_eq_true rfl) rfl rfl (Nat.le_of_ble_eq_true rfl) (Nat.le_of_ble_eq_true rfl) rfl dX9_init_15 ?_
  clear hP hS; intro H hP hS
  replace hP : q_P D dA q_kdC (q_rho (q_LC.drop 75)) 4 z (z + 4) q_O H := hP
  refine q_putR (L := q_LC.drop 75) (L' := q_LC.drop 74) hx hb hts hown hin hK hP hS (fun k hk => hA k (Nat.lt_of_lt_of_le hk (Nat.le_of_ble_eq_true rfl))) fr_RX9_15 (Nat.le_of_ble_eq_true rfl) q_kdC_1 rfl dX9_init_17 ?_
  clear hP hS; intro H locs hP hS
  replace hP : q_P D dA q_kdC (q_rho (q_LC.drop 74)) 4 z (z + 4) q_O H := hP
  refine lv_aload_n hx hb dX9_init_20 rfl (lv_at hl 0 rfl) ?_
  refine lv_iconst (v := q_I 5) hx hb dX9_init_21 rfl ?_
  refine q_newa (t := 1) (len := 5) (cells' := 3) (slots' := 25) hx hb hts hK hP hS (by decide) aw_1 q_kdC_4 (fun _ => rfl) (Nat.le_of_ble_eq_true rfl) rfl rfl (Nat.le_of_ble_eq_true rfl) (Nat.le_of_ble_eq_true rfl) rfl dX9_init_22 ?_
  clear hP hS; intro H hP hS
  replace hP : q_P D dA q_kdC (q_rho (q_LC.drop 74)) 5 z (z + 5) q_O H := hP
  refine q_putR (L := q_LC.drop 74) (L' := q_LC.drop 73) hx hb hts hown hin hK hP hS (fun k hk => hA k (Nat.lt_of_lt_of_le hk (Nat.le_of_ble_eq_true rfl))) fr_RX9_18 (Nat.le_of_ble_eq_true rfl) q_kdC_1 rfl dX9_init_24 ?_
  clear hP hS; intro H locs hP hS
  replace hP : q_P D dA q_kdC (q_rho (q_LC.drop 73)) 5 z (z + 5) q_O H := hP
  refine lv_aload_n hx hb dX9_init_27 rfl (lv_at hl 0 rfl) ?_
  refine q_new (cells' := 4) (slots' := 35) hx hb hts hown hK hP hS nw_RX9_21 q_kdC_5 (q_rho_none (by decide +kernel)) (fun _ => rfl) rfl rfl (Nat.le_of_ble_eq_true rfl) (Nat.le_of_ble_eq_true rfl) dX9_init_28 ?_
  clear hP hS; intro H hP hS _
  replace hP : q_P D dA q_kdC (q_rho (q_LC.drop 73)) 6 z (z + 6) q_O H := hP
  refine lv_dup hx hb dX9_init_31 rfl ?_
  refine q_callI (cells' := 13) (slots' := 1240) (rest := [.ref (z + 5), .ref (z + 1)]) hx hb hml hts hown hK hS gi_RX9_23 (c_init_Hi_5 l D dA) q_blindO (fun U hU hW => ⟨by rw [hU]; exact hP, hK.moved hW, va_AO.moved hW.alike hO⟩) ⟨rfl, rfl, Nat.le_of_ble_eq_true rfl, Nat.le_of_ble_eq_true rfl⟩ rfl rfl ⟨Nat.le_of_ble_eq_true rfl, Nat.le_of_ble_eq_true rfl⟩ hl.1 (Nat.le_of_ble_eq_true rfl) (fun _ g => g) dX9_init_32 ?_
  clear hP hS; intro H locs hP hS _
  refine q_putR (L := q_LC.drop 64) (L' := q_LC.drop 63) hx hb hts hown hin hK hP hS (fun k hk => hA k (Nat.lt_of_lt_of_le hk (Nat.le_of_ble_eq_true rfl))) fr_RX9_24 (Nat.le_of_ble_eq_true rfl) q_kdC_1 rfl dX9_init_35 ?_
  clear hP hS; intro H locs hP hS
  replace hP : q_P D dA q_kdC (q_rho (q_LC.drop 63)) 15 z (z + 15) q_O H := hP
  refine lv_aload_n hx hb dX9_init_38 rfl (lv_at hl 0 rfl) ?_
  refine q_new (cells' := 14) (slots' := 1247) hx hb hts hown hK hP hS nw_RX9_28 q_kdC_15 (q_rho_none (by decide +kernel)) (fun _ => rfl) rfl rfl (Nat.le_of_ble_eq_true rfl) (Nat.le_of_ble_eq_true rfl) dX9_init_39 ?_
  clear hP hS; intro H hP hS _
  replace hP : q_P D dA q_kdC (q_rho (q_LC.drop 63)) 16 z (z + 16) q_O H := hP
  refine lv_dup hx hb dX9_init_42 rfl ?_
  refine q_callI (cells' := 20) (slots' := 3832) (rest := [.ref (z + 15), .ref (z + 1)]) hx hb hml hts hown hK hS gi_RX9_30 (c_init_Ch_15 l D dA) q_blindO (fun U hU hW => ⟨by rw [hU]; exact hP, hK.moved hW, va_AO.moved hW.alike hO⟩) ⟨rfl, rfl, Nat.le_of_ble_eq_true rfl, Nat.le_of_ble_eq_true rfl⟩ rfl rfl ⟨Nat.le_of_ble_eq_true rfl, Nat.le_of_ble_eq_true rfl⟩ hl.1 (Nat.le_of_ble_eq_true rfl) (fun _ g => g) dX9_init_43 ?_
  clear hP hS; intro H locs hP hS _
  refine q_putR (L := q_LC.drop 57) (L' := q_LC.drop 56) hx hb hts hown hin hK hP hS (fun k hk => hA k (Nat.lt_of_lt_of_le hk (Nat.le_of_ble_eq_true rfl))) fr_RX9_31 (Nat.le_of_ble_eq_true rfl) q_kdC_1 rfl dX9_init_46 ?_
  clear hP hS; intro H locs hP hS
  replace hP : q_P D dA q_kdC (q_rho (q_LC.drop 56)) 22 z (z + 22) q_O H := hP
  refine lv_aload_n hx hb dX9_init_49 rfl (lv_at hl 0 rfl) ?_
  refine q_new (cells' := 21) (slots' := 3834) hx hb hts hown hK hP hS nw_RX9_35 q_kdC_22 (q_rho_none (by decide +kernel)) (fun _ => rfl) rfl rfl (Nat.le_of_ble_eq_true rfl) (Nat.le_of_ble_eq_true rfl) dX9_init_50 ?_
  clear hP hS; intro H hP hS _
  replace hP : q_P D dA q_kdC (q_rho (q_LC.drop 56)) 23 z (z + 23) q_O H := hP
  refine lv_dup hx hb dX9_init_53 rfl ?_
  refine q_callI (cells' := 22) (slots' := 3839) (rest := [.ref (z + 22), .ref (z + 1)]) hx hb hml hts hown hK hS gi_RX9_37 (c_init_Sn_22 l D dA) q_blindO (fun U hU hW => ⟨by rw [hU]; exact hP, hK.moved hW, va_AO.moved hW.alike hO⟩) ⟨rfl, rfl, Nat.le_of_ble_eq_true rfl, Nat.le_of_ble_eq_true rfl⟩ rfl rfl ⟨Nat.le_of_ble_eq_true rfl, Nat.le_of_ble_eq_true rfl⟩ hl.1 (Nat.le_of_ble_eq_true rfl) (fun _ g => g) dX9_init_54 ?_
  clear hP hS; intro H locs hP hS _
  refine q_putR (L := q_LC.drop 55) (L' := q_LC.drop 54) hx hb hts hown hin hK hP hS (fun k hk => hA k (Nat.lt_of_lt_of_le hk (Nat.le_of_ble_eq_true rfl))) fr_RX9_38 (Nat.le_of_ble_eq_true rfl) q_kdC_1 rfl dX9_init_57 ?_
  clear hP hS; intro H locs hP hS
  replace hP : q_P D dA q_kdC (q_rho (q_LC.drop 54)) 24 z (z + 24) q_O H := hP
  exact q_retv hx hb hr hlocks hP hS rfl dX9_init_60
set_option maxHeartbeats 4000000 in
set_option maxRecDepth 100000 in
theorem c_init_Hi_28 (l : Launch) (D : va_G) (dA : Nat → ClassId) {z : Nat} : Met l yX3_init (q_wc yX3_init cX3_init 1 none) ({ frames := 1, cells := 9, slots := 1205, locals := 20 } : Room) (va_Pc [.ref (z + 28)] (q_BO (q_P D dA q_kdC (q_rho (q_LC.drop 50)) 29 z (z + 29) q_O) D dA)) (q_Q none True (q_P D dA q_kdC (q_rho (q_LC.drop 41)) 38 z (z + 38) q_O) (q_A z 77)) 9 1205 (q_A z 77) := by
  refine Met.ofW (cc := cX3_init) (maxL := 1) (ret := none) (by decide) rfl ?_
  intro p e s m args below meth c s₁ B hml hv
  obtain ⟨hargs, hP, hK, hO⟩ := hv
  have hx := B.exec
  have hb := B.bytes
  have hr := B.returns
  have hts : ∀ w ∈ q_W, w.before args s = true := fun w hw => atoms_spec (ws := q_wc yX3_init cX3_init 1 none) B.pre w (List.mem_cons_of_mem _ hw)
  have hown : s.vm.findClass RX3 = some m.cls := findClass_of_methodNamed B.named
  have hlocks := B.notSynchronized
  have hin : meth.name = "<init>" := (name_of_methodNamed B.named B.method).1
  have hS : va_S (q_A z 77) s.heap s.heap [] := va_S.rf
  have hA : ∀ k, k < 77 → q_A z 77 (z + k) := fun k hk => ⟨Nat.le_add_right z k, Nat.add_lt_add_left hk z⟩
  have hl := lv_entry [.ref (z + 28)] (n := 1) (Nat.le_of_ble_eq_true rfl)
  refine W.eq (by rw [hargs, lg_entry_eq]) ?_
  generalize (lg_sl [.ref (z + 28)] ++ List.replicate (1 - (lg_sl [.ref (z + 28)]).length) Slot.unset).toArray = ls at hl ⊢
  have hl : lv_has ls 1 [(0, .ref (z + 28))] := hl
  change W p l e ({ frames := 1, cells := 9, slots := 1205, locals := 20 } : Room) s m args below meth c s.heap [] 0 0 _ (F0 m 0 ls [])
  refine lv_aload_n hx hb dX3_init_0 rfl (lv_at hl 0 rfl) ?_
  refine W.objInit hx hb hown (hts _ oi_RX3_3.1) (hts _ oi_RX3_3.2.1) (hts _ oi_RX3_3.2.2) rfl (by rw [hml]; exact hl.1) rfl dX3_init_1 (Nat.le_of_ble_eq_true rfl) (Nat.le_of_ble_eq_true rfl) ?_
  refine W.eq (g2 := F0 m 4 ls []) rfl ?_
  refine lv_aload_n hx hb dX3_init_4 rfl (lv_at hl 0 rfl) ?_
  refine lv_bipush (v := q_I 100) hx hb dX3_init_5 (by decide) ?_
  refine q_newa (t := 1) (len := 100) (cells' := 1) (slots' := 100) hx hb hts hK hP hS (by decide) aw_1 q_kdC_29 (fun _ => rfl) (Nat.le_of_ble_eq_true rfl) rfl rfl (Nat.le_of_ble_eq_true rfl) (Nat.le_of_ble_eq_true rfl) rfl dX3_init_7 ?_
  clear hP hS; intro H hP hS
  replace hP : q_P D dA q_kdC (q_rho (q_LC.drop 50)) 30 z (z + 30) q_O H := hP
  refine q_putR (L := q_LC.drop 50) (L' := q_LC.drop 49) hx hb hts hown hin hK hP hS (fun k hk => hA k (Nat.lt_of_lt_of_le hk (Nat.le_of_ble_eq_true rfl))) fr_RX3_9 (Nat.le_of_ble_eq_true rfl) q_kdC_28 rfl dX3_init_9 ?_
  clear hP hS; intro H locs hP hS
  replace hP : q_P D dA q_kdC (q_rho (q_LC.drop 49)) 30 z (z + 30) q_O H := hP
  refine lv_aload_n hx hb dX3_init_12 rfl (lv_at hl 0 rfl) ?_
  refine lv_bipush (v := q_I 100) hx hb dX3_init_13 (by decide) ?_
  refine q_newa (t := 1) (len := 100) (cells' := 2) (slots' := 200) hx hb hts hK hP hS (by decide) aw_1 q_kdC_30 (fun _ => rfl) (Nat.le_of_ble_eq_true rfl) rfl rfl (Nat.le_of_ble_eq_true rfl) (Nat.le_of_ble_eq_true rfl) rfl dX3_init_15 ?_
  clear hP hS; intro H hP hS
  replace hP : q_P D dA q_kdC (q_rho (q_LC.drop 49)) 31 z (z + 31) q_O H := hP
  refine q_putR (L := q_LC.drop 49) (L' := q_LC.drop 48) hx hb hts hown hin hK hP hS (fun k hk => hA k (Nat.lt_of_lt_of_le hk (Nat.le_of_ble_eq_true rfl))) fr_RX3_15 (Nat.le_of_ble_eq_true rfl) q_kdC_28 rfl dX3_init_17 ?_
  clear hP hS; intro H locs hP hS
  replace hP : q_P D dA q_kdC (q_rho (q_LC.drop 48)) 31 z (z + 31) q_O H := hP
  refine lv_aload_n hx hb dX3_init_20 rfl (lv_at hl 0 rfl) ?_
  refine lv_bipush (v := q_I 100) hx hb dX3_init_21 (by decide) ?_
  refine q_newa (t := 1) (len := 100) (cells' := 3) (slots' := 300) hx hb hts hK hP hS (by decide) aw_1 q_kdC_31 (fun _ => rfl) (Nat.le_of_ble_eq_true rfl) rfl rfl (Nat.le_of_ble_eq_true rfl) (Nat.le_of_ble_eq_true rfl) rfl dX3_init_23 ?_
  clear hP hS; intro H hP hS
  replace hP : q_P D dA q_kdC (q_rho (q_LC.drop 48)) 32 z (z + 32) q_O H := hP
  refine q_putR (L := q_LC.drop 48) (L' := q_LC.drop 47) hx hb hts hown hin hK hP hS (fun k hk => hA k (Nat.lt_of_lt_of_le hk (Nat.le_of_ble_eq_true rfl))) fr_RX3_18 (Nat.le_of_ble_eq_true rfl) q_kdC_28 rfl dX3_init_25 ?_
  clear hP hS; intro H locs hP hS
  replace hP : q_P D dA q_kdC (q_rho (q_LC.drop 47)) 32 z (z + 32) q_O H := hP
  refine lv_aload_n hx hb dX3_init_28 rfl (lv_at hl 0 rfl) ?_
  refine lv_bipush (v := q_I 100) hx hb dX3_init_29 (by decide) ?_
  refine q_newa (t := 1) (len := 100) (cells' := 4) (slots' := 400) hx hb hts hK hP hS (by decide) aw_1 q_kdC_32 (fun _ => rfl) (Nat.le_of_ble_eq_true rfl) rfl rfl (Nat.le_of_ble_eq_true rfl) (Nat.le_of_ble_eq_true rfl) rfl dX3_init_31 ?_
  clear hP hS; intro H hP hS
  replace hP : q_P D dA q_kdC (q_rho (q_LC.drop 47)) 33 z (z + 33) q_O H := hP
  refine q_putR (L := q_LC.drop 47) (L' := q_LC.drop 46) hx hb hts hown hin hK hP hS (fun k hk => hA k (Nat.lt_of_lt_of_le hk (Nat.le_of_ble_eq_true rfl))) fr_RX3_21 (Nat.le_of_ble_eq_true rfl) q_kdC_28 rfl dX3_init_33 ?_
  clear hP hS; intro H locs hP hS
  replace hP : q_P D dA q_kdC (q_rho (q_LC.drop 46)) 33 z (z + 33) q_O H := hP
  refine lv_aload_n hx hb dX3_init_36 rfl (lv_at hl 0 rfl) ?_
  refine lv_bipush (v := q_I 100) hx hb dX3_init_37 (by decide) ?_
  refine q_newa (t := 1) (len := 100) (cells' := 5) (slots' := 500) hx hb hts hK hP hS (by decide) aw_1 q_kdC_33 (fun _ => rfl) (Nat.le_of_ble_eq_true rfl) rfl rfl (Nat.le_of_ble_eq_true rfl) (Nat.le_of_ble_eq_true rfl) rfl dX3_init_39 ?_
  clear hP hS; intro H hP hS
  replace hP : q_P D dA q_kdC (q_rho (q_LC.drop 46)) 34 z (z + 34) q_O H := hP
  refine q_putR (L := q_LC.drop 46) (L' := q_LC.drop 45) hx hb hts hown hin hK hP hS (fun k hk => hA k (Nat.lt_of_lt_of_le hk (Nat.le_of_ble_eq_true rfl))) fr_RX3_24 (Nat.le_of_ble_eq_true rfl) q_kdC_28 rfl dX3_init_41 ?_
  clear hP hS; intro H locs hP hS
  replace hP : q_P D dA q_kdC (q_rho (q_LC.drop 45)) 34 z (z + 34) q_O H := hP
  refine lv_aload_n hx hb dX3_init_44 rfl (lv_at hl 0 rfl) ?_
  refine lv_bipush (v := q_I 100) hx hb dX3_init_45 (by decide) ?_
  refine q_newa (t := 1) (len := 100) (cells' := 6) (slots' := 600) hx hb hts hK hP hS (by decide) aw_1 q_kdC_34 (fun _ => rfl) (Nat.le_of_ble_eq_true rfl) rfl rfl (Nat.le_of_ble_eq_true rfl) (Nat.le_of_ble_eq_true rfl) rfl dX3_init_47 ?_
  clear hP hS; intro H hP hS
  replace hP : q_P D dA q_kdC (q_rho (q_LC.drop 45)) 35 z (z + 35) q_O H := hP
  refine q_putR (L := q_LC.drop 45) (L' := q_LC.drop 44) hx hb hts hown hin hK hP hS (fun k hk => hA k (Nat.lt_of_lt_of_le hk (Nat.le_of_ble_eq_true rfl))) fr_RX3_27 (Nat.le_of_ble_eq_true rfl) q_kdC_28 rfl dX3_init_49 ?_
  clear hP hS; intro H locs hP hS
  replace hP : q_P D dA q_kdC (q_rho (q_LC.drop 44)) 35 z (z + 35) q_O H := hP
  refine lv_aload_n hx hb dX3_init_52 rfl (lv_at hl 0 rfl) ?_
  refine lv_bipush (v := q_I 100) hx hb dX3_init_53 (by decide) ?_
  refine q_newa (t := 1) (len := 100) (cells' := 7) (slots' := 700) hx hb hts hK hP hS (by decide) aw_1 q_kdC_35 (fun _ => rfl) (Nat.le_of_ble_eq_true rfl) rfl rfl (Nat.le_of_ble_eq_true rfl) (Nat.le_of_ble_eq_true rfl) rfl dX3_init_55 ?_
  clear hP hS; intro H hP hS
  replace hP : q_P D dA q_kdC (q_rho (q_LC.drop 44)) 36 z (z + 36) q_O H := hP
  refine q_putR (L := q_LC.drop 44) (L' := q_LC.drop 43) hx hb hts hown hin hK hP hS (fun k hk => hA k (Nat.lt_of_lt_of_le hk (Nat.le_of_ble_eq_true rfl))) fr_RX3_30 (Nat.le_of_ble_eq_true rfl) q_kdC_28 rfl dX3_init_57 ?_
  clear hP hS; intro H locs hP hS
  replace hP : q_P D dA q_kdC (q_rho (q_LC.drop 43)) 36 z (z + 36) q_O H := hP
  refine lv_aload_n hx hb dX3_init_60 rfl (lv_at hl 0 rfl) ?_
  refine lv_sipush (v := q_I 500) hx hb dX3_init_61 (by decide) ?_
  refine q_newa (t := 1) (len := 500) (cells' := 8) (slots' := 1200) hx hb hts hK hP hS (by decide) aw_1 q_kdC_36 (fun _ => rfl) (Nat.le_of_ble_eq_true rfl) rfl rfl (Nat.le_of_ble_eq_true rfl) (Nat.le_of_ble_eq_true rfl) rfl dX3_init_64 ?_
  clear hP hS; intro H hP hS
  replace hP : q_P D dA q_kdC (q_rho (q_LC.drop 43)) 37 z (z + 37) q_O H := hP
  refine q_putR (L := q_LC.drop 43) (L' := q_LC.drop 42) hx hb hts hown hin hK hP hS (fun k hk => hA k (Nat.lt_of_lt_of_le hk (Nat.le_of_ble_eq_true rfl))) fr_RX3_33 (Nat.le_of_ble_eq_true rfl) q_kdC_28 rfl dX3_init_66 ?_
  clear hP hS; intro H locs hP hS
  replace hP : q_P D dA q_kdC (q_rho (q_LC.drop 42)) 37 z (z + 37) q_O H := hP
  refine lv_aload_n hx hb dX3_init_69 rfl (lv_at hl 0 rfl) ?_
  refine lv_iconst (v := q_I 5) hx hb dX3_init_70 rfl ?_
  refine q_newa (t := 1) (len := 5) (cells' := 9) (slots' := 1205) hx hb hts hK hP hS (by decide) aw_1 q_kdC_37 (fun _ => rfl) (Nat.le_of_ble_eq_true rfl) rfl rfl (Nat.le_of_ble_eq_true rfl) (Nat.le_of_ble_eq_true rfl) rfl dX3_init_71 ?_
  clear hP hS; intro H hP hS
  replace hP : q_P D dA q_kdC (q_rho (q_LC.drop 42)) 38 z (z + 38) q_O H := hP
  refine q_putR (L := q_LC.drop 42) (L' := q_LC.drop 41) hx hb hts hown hin hK hP hS (fun k hk => hA k (Nat.lt_of_lt_of_le hk (Nat.le_of_ble_eq_true rfl))) fr_RX3_36 (Nat.le_of_ble_eq_true rfl) q_kdC_28 rfl dX3_init_73 ?_
  clear hP hS; intro H locs hP hS
  replace hP : q_P D dA q_kdC (q_rho (q_LC.drop 41)) 38 z (z + 38) q_O H := hP
  exact q_retv hx hb hr hlocks hP hS rfl dX3_init_76
set_option maxHeartbeats 4000000 in
set_option maxRecDepth 100000 in
theorem c_init_Ch_38 (l : Launch) (D : va_G) (dA : Nat → ClassId) {z : Nat} : Met l yX0_init (q_wc yX0_init cX0_init 1 none) ({ frames := 1, cells := 6, slots := 2585, locals := 20 } : Room) (va_Pc [.ref (z + 38)] (q_BO (q_P D dA q_kdC (q_rho (q_LC.drop 40)) 39 z (z + 39) q_O) D dA)) (q_Q none True (q_P D dA q_kdC (q_rho (q_LC.drop 34)) 45 z (z + 45) q_O) (q_A z 77)) 6 2585 (q_A z 77) := by
  refine Met.ofW (cc := cX0_init) (maxL := 1) (ret := none) (by decide) rfl ?_
  intro p e s m args below meth c s₁ B hml hv
  obtain ⟨hargs, hP, hK, hO⟩ := hv
  have hx := B.exec
  have hb := B.bytes
  have hr := B.returns
  have hts : ∀ w ∈ q_W, w.before args s = true := fun w hw => atoms_spec (ws := q_wc yX0_init cX0_init 1 none) B.pre w (List.mem_cons_of_mem _ hw)
  have hown : s.vm.findClass RX0 = some m.cls := findClass_of_methodNamed B.named
  have hlocks := B.notSynchronized
  have hin : meth.name = "<init>" := (name_of_methodNamed B.named B.method).1
  have hS : va_S (q_A z 77) s.heap s.heap [] := va_S.rf
  have hA : ∀ k, k < 77 → q_A z 77 (z + k) := fun k hk => ⟨Nat.le_add_right z k, Nat.add_lt_add_left hk z⟩
  have hl := lv_entry [.ref (z + 38)] (n := 1) (Nat.le_of_ble_eq_true rfl)
  refine W.eq (by rw [hargs, lg_entry_eq]) ?_
  generalize (lg_sl [.ref (z + 38)] ++ List.replicate (1 - (lg_sl [.ref (z + 38)]).length) Slot.unset).toArray = ls at hl ⊢
  have hl : lv_has ls 1 [(0, .ref (z + 38))] := hl
  change W p l e ({ frames := 1, cells := 6, slots := 2585, locals := 20 } : Room) s m args below meth c s.heap [] 0 0 _ (F0 m 0 ls [])
  refine lv_aload_n hx hb dX0_init_0 rfl (lv_at hl 0 rfl) ?_
  refine W.objInit hx hb hown (hts _ oi_RX0_3.1) (hts _ oi_RX0_3.2.1) (hts _ oi_RX0_3.2.2) rfl (by rw [hml]; exact hl.1) rfl dX0_init_1 (Nat.le_of_ble_eq_true rfl) (Nat.le_of_ble_eq_true rfl) ?_
  refine W.eq (g2 := F0 m 4 ls []) rfl ?_
  refine lv_aload_n hx hb dX0_init_4 rfl (lv_at hl 0 rfl) ?_
  refine lv_sipush (v := q_I 512) hx hb dX0_init_5 (by decide) ?_
  refine q_newa (t := 1) (len := 512) (cells' := 1) (slots' := 512) hx hb hts hK hP hS (by decide) aw_1 q_kdC_39 (fun _ => rfl) (Nat.le_of_ble_eq_true rfl) rfl rfl (Nat.le_of_ble_eq_true rfl) (Nat.le_of_ble_eq_true rfl) rfl dX0_init_8 ?_
  clear hP hS; intro H hP hS
  replace hP : q_P D dA q_kdC (q_rho (q_LC.drop 40)) 40 z (z + 40) q_O H := hP
  refine q_putR (L := q_LC.drop 40) (L' := q_LC.drop 39) hx hb hts hown hin hK hP hS (fun k hk => hA k (Nat.lt_of_lt_of_le hk (Nat.le_of_ble_eq_true rfl))) fr_RX0_9 (Nat.le_of_ble_eq_true rfl) q_kdC_38 rfl dX0_init_10 ?_
  clear hP hS; intro H locs hP hS
  replace hP : q_P D dA q_kdC (q_rho (q_LC.drop 39)) 40 z (z + 40) q_O H := hP
  refine lv_aload_n hx hb dX0_init_13 rfl (lv_at hl 0 rfl) ?_
  refine lv_sipush (v := q_I 512) hx hb dX0_init_14 (by decide) ?_
  refine q_newa (t := 1) (len := 512) (cells' := 2) (slots' := 1024) hx hb hts hK hP hS (by decide) aw_1 q_kdC_40 (fun _ => rfl) (Nat.le_of_ble_eq_true rfl) rfl rfl (Nat.le_of_ble_eq_true rfl) (Nat.le_of_ble_eq_true rfl) rfl dX0_init_17 ?_
  clear hP hS; intro H hP hS
  replace hP : q_P D dA q_kdC (q_rho (q_LC.drop 39)) 41 z (z + 41) q_O H := hP
  refine q_putR (L := q_LC.drop 39) (L' := q_LC.drop 38) hx hb hts hown hin hK hP hS (fun k hk => hA k (Nat.lt_of_lt_of_le hk (Nat.le_of_ble_eq_true rfl))) fr_RX0_15 (Nat.le_of_ble_eq_true rfl) q_kdC_38 rfl dX0_init_19 ?_
  clear hP hS; intro H locs hP hS
  replace hP : q_P D dA q_kdC (q_rho (q_LC.drop 38)) 41 z (z + 41) q_O H := hP
  refine lv_aload_n hx hb dX0_init_22 rfl (lv_at hl 0 rfl) ?_
  refine lv_sipush (v := q_I 512) hx hb dX0_init_23 (by decide) ?_
  refine q_newa (t := 1) (len := 512) (cells' := 3) (slots' := 1536) hx hb hts hK hP hS (by decide) aw_1 q_kdC_41 (fun _ => rfl) (Nat.le_of_ble_eq_true rfl) rfl rfl (Nat.le_of_ble_eq_true rfl) (Nat.le_of_ble_eq_true rfl) rfl dX0_init_26 ?_
  clear hP hS; intro H hP hS
  replace hP : q_P D dA q_kdC (q_rho (q_LC.drop 38)) 42 z (z + 42) q_O H := hP
  refine q_putR (L := q_LC.drop 38) (L' := q_LC.drop 37) hx hb hts hown hin hK hP hS (fun k hk => hA k (Nat.lt_of_lt_of_le hk (Nat.le_of_ble_eq_true rfl))) fr_RX0_18 (Nat.le_of_ble_eq_true rfl) q_kdC_38 rfl dX0_init_28 ?_
  clear hP hS; intro H locs hP hS
  replace hP : q_P D dA q_kdC (q_rho (q_LC.drop 37)) 42 z (z + 42) q_O H := hP
  refine lv_aload_n hx hb dX0_init_31 rfl (lv_at hl 0 rfl) ?_
  refine lv_sipush (v := q_I 512) hx hb dX0_init_32 (by decide) ?_
  refine q_newa (t := 1) (len := 512) (cells' := 4) (slots' := 2048) hx hb hts hK hP hS (by decide) aw_1 q_kdC_42 (fun _ => rfl) (Nat.le_of_ble_eq_true rfl) rfl rfl (Nat.le_of_ble_eq_true rfl) (Nat.le_of_ble_eq_true rfl) rfl dX0_init_35 ?_
  clear hP hS; intro H hP hS
  replace hP : q_P D dA q_kdC (q_rho (q_LC.drop 37)) 43 z (z + 43) q_O H := hP
  refine q_putR (L := q_LC.drop 37) (L' := q_LC.drop 36) hx hb hts hown hin hK hP hS (fun k hk => hA k (Nat.lt_of_lt_of_le hk (Nat.le_of_ble_eq_true rfl))) fr_RX0_21 (Nat.le_of_ble_eq_true rfl) q_kdC_38 rfl dX0_init_37 ?_
  clear hP hS; intro H locs hP hS
  replace hP : q_P D dA q_kdC (q_rho (q_LC.drop 36)) 43 z (z + 43) q_O H := hP
  refine lv_aload_n hx hb dX0_init_40 rfl (lv_at hl 0 rfl) ?_
  refine lv_sipush (v := q_I 512) hx hb dX0_init_41 (by decide) ?_
  refine q_newa (t := 1) (len := 512) (cells' := 5) (slots' := 2560) hx hb hts hK hP hS (by decide) aw_1 q_kdC_43 (fun _ => rfl) (Nat.le_of_ble_eq_true rfl) rfl rfl (Nat.le_of_ble_eq_true rfl) (Nat.le_of_ble_eq_true rfl) rfl dX0_init_44 ?_
  clear hP hS; intro H hP hS
  replace hP : q_P D dA q_kdC (q_rho (q_LC.drop 36)) 44 z (z + 44) q_O H := hP
  refine q_putR (L := q_LC.drop 36) (L' := q_LC.drop 35) hx hb hts hown hin hK hP hS (fun k hk => hA k (Nat.lt_of_lt_of_le hk (Nat.le_of_ble_eq_true rfl))) fr_RX0_24 (Nat.le_of_ble_eq_true rfl) q_kdC_38 rfl dX0_init_46 ?_
  clear hP hS; intro H locs hP hS
  replace hP : q_P D dA q_kdC (q_rho (q_LC.drop 35)) 44 z (z + 44) q_O H := hP
  refine lv_aload_n hx hb dX0_init_49 rfl (lv_at hl 0 rfl) ?_
  refine lv_bipush (v := q_I 25) hx hb dX0_init_50 (by decide) ?_
  refine q_newa (t := 1) (len := 25) (cells' := 6) (slots' := 2585) hx hb hts hK hP hS (by decide) aw_1 q_kdC_44 (fun _ => rfl) (Nat.le_of_ble_eq_true rfl) rfl rfl (Nat.le_of_ble_eq_true rfl) (Nat.le_of_ble_eq_true rfl) rfl dX0_init_52 ?_
  clear hP hS; intro H hP hS
  replace hP : q_P D dA q_kdC (q_rho (q_LC.drop 35)) 45 z (z + 45) q_O H := hP
  refine q_putR (L := q_LC.drop 35) (L' := q_LC.drop 34) hx hb hts hown hin hK hP hS (fun k hk => hA k (Nat.lt_of_lt_of_le hk (Nat.le_of_ble_eq_true rfl))) fr_RX0_27 (Nat.le_of_ble_eq_true rfl) q_kdC_38 rfl dX0_init_54 ?_
  clear hP hS; intro H locs hP hS
  replace hP : q_P D dA q_kdC (q_rho (q_LC.drop 34)) 45 z (z + 45) q_O H := hP
  exact q_retv hx hb hr hlocks hP hS rfl dX0_init_57
set_option maxHeartbeats 4000000 in
set_option maxRecDepth 100000 in
theorem c_init_Sn_45 (l : Launch) (D : va_G) (dA : Nat → ClassId) {z : Nat} : Met l yX7_init (q_wc yX7_init cX7_init 1 none) ({ frames := 1, cells := 1, slots := 5, locals := 20 } : Room) (va_Pc [.ref (z + 45)] (q_BO (q_P D dA q_kdC (q_rho (q_LC.drop 33)) 46 z (z + 46) q_O) D dA)) (q_Q none True (q_P D dA q_kdC (q_rho (q_LC.drop 32)) 47 z (z + 47) q_O) (q_A z 77)) 1 5 (q_A z 77) := by
  refine Met.ofW (cc := cX7_init) (maxL := 1) (ret := none) (by decide) rfl ?_
  intro p e s m args below meth c s₁ B hml hv
  obtain ⟨hargs, hP, hK, hO⟩ := hv
  have hx := B.exec
  have hb := B.bytes
  have hr := B.returns
  have hts : ∀ w ∈ q_W, w.before args s = true := fun w hw => atoms_spec (ws := q_wc yX7_init cX7_init 1 none) B.pre w (List.mem_cons_of_mem _ hw)
  have hown : s.vm.findClass RX7 = some m.cls := findClass_of_methodNamed B.named
  have hlocks := B.notSynchronized
  have hin : meth.name = "<init>" := (name_of_methodNamed B.named B.method).1
  have hS : va_S (q_A z 77) s.heap s.heap [] := va_S.rf
  have hA : ∀ k, k < 77 → q_A z 77 (z + k) := fun k hk => ⟨Nat.le_add_right z k, Nat.add_lt_add_left hk z⟩
  have hl := lv_entry [.ref (z + 45)] (n := 1) (Nat.le_of_ble_eq_true rfl)
  refine W.eq (by rw [hargs, lg_entry_eq]) ?_
  generalize (lg_sl [.ref (z + 45)] ++ List.replicate (1 - (lg_sl [.ref (z + 45)]).length) Slot.unset).toArray = ls at hl ⊢
  have hl : lv_has ls 1 [(0, .ref (z + 45))] := hl
  change W p l e ({ frames := 1, cells := 1, slots := 5, locals := 20 } : Room) s m args below meth c s.heap [] 0 0 _ (F0 m 0 ls [])
  refine lv_aload_n hx hb dX7_init_0 rfl (lv_at hl 0 rfl) ?_
  refine W.objInit hx hb hown (hts _ oi_RX7_3.1) (hts _ oi_RX7_3.2.1) (hts _ oi_RX7_3.2.2) rfl (by rw [hml]; exact hl.1) rfl dX7_init_1 (Nat.le_of_ble_eq_true rfl) (Nat.le_of_ble_eq_true rfl) ?_
  refine W.eq (g2 := F0 m 4 ls []) rfl ?_
  refine lv_aload_n hx hb dX7_init_4 rfl (lv_at hl 0 rfl) ?_
  refine lv_iconst (v := q_I 5) hx hb dX7_init_5 rfl ?_
  refine q_newa (t := 1) (len := 5) (cells' := 1) (slots' := 5) hx hb hts hK hP hS (by decide) aw_1 q_kdC_46 (fun _ => rfl) (Nat.le_of_ble_eq_true rfl) rfl rfl (Nat.le_of_ble_eq_true rfl) (Nat.le_of_ble_eq_true rfl) rfl dX7_init_6 ?_
  clear hP hS; intro H hP hS
  replace hP : q_P D dA q_kdC (q_rho (q_LC.drop 33)) 47 z (z + 47) q_O H := hP
  refine q_putR (L := q_LC.drop 33) (L' := q_LC.drop 32) hx hb hts hown hin hK hP hS (fun k hk => hA k (Nat.lt_of_lt_of_le hk (Nat.le_of_ble_eq_true rfl))) fr_RX7_9 (Nat.le_of_ble_eq_true rfl) q_kdC_45 rfl dX7_init_8 ?_
  clear hP hS; intro H locs hP hS
  replace hP : q_P D dA q_kdC (q_rho (q_LC.drop 32)) 47 z (z + 47) q_O H := hP
  exact q_retv hx hb hr hlocks hP hS rfl dX7_init_11
set_option maxHeartbeats 4000000 in
set_option maxRecDepth 100000 in
theorem c_init_Wo_24 (l : Launch) (D : va_G) (dA : Nat → ClassId) {z : Nat} : Met l yX9_init (q_wc yX9_init cX9_init 1 none) ({ frames := 2, cells := 22, slots := 3839, locals := 40 } : Room) (va_Pc [.ref (z + 24)] (q_BO (q_P D dA q_kdC (q_rho (q_LC.drop 53)) 25 z (z + 25) q_O) D dA)) (q_Q none True (q_P D dA q_kdC (q_rho (q_LC.drop 31)) 47 z (z + 47) q_O) (q_A z 77)) 22 3839 (q_A z 77) := by
  refine Met.ofW (cc := cX9_init) (maxL := 1) (ret := none) (by decide) rfl ?_
  intro p e s m args below meth c s₁ B hml hv
  obtain ⟨hargs, hP, hK, hO⟩ := hv
  have hx := B.exec
  have hb := B.bytes
  have hr := B.returns
  have hts : ∀ w ∈ q_W, w.before args s = true := fun w hw => atoms_spec (ws := q_wc yX9_init cX9_init 1 none) B.pre w (List.mem_cons_of_mem _ hw)
  have hown : s.vm.findClass RX9 = some m.cls := findClass_of_methodNamed B.named
  have hlocks := B.notSynchronized
  have hin : meth.name = "<init>" := (name_of_methodNamed B.named B.method).1
  have hS : va_S (q_A z 77) s.heap s.heap [] := va_S.rf
  have hA : ∀ k, k < 77 → q_A z 77 (z + k) := fun k hk => ⟨Nat.le_add_right z k, Nat.add_lt_add_left hk z⟩
  have hl := lv_entry [.ref (z + 24)] (n := 1) (Nat.le_of_ble_eq_true rfl)
  refine W.eq (by rw [hargs, lg_entry_eq]) ?_
  generalize (lg_sl [.ref (z + 24)] ++ List.replicate (1 - (lg_sl [.ref (z + 24)]).length) Slot.unset).toArray = ls at hl ⊢
  have hl : lv_has ls 1 [(0, .ref (z + 24))] := hl
  change W p l e ({ frames := 2, cells := 22, slots := 3839, locals := 40 } : Room) s m args below meth c s.heap [] 0 0 _ (F0 m 0 ls [])
  refine lv_aload_n hx hb dX9_init_0 rfl (lv_at hl 0 rfl) ?_
  refine W.objInit hx hb hown (hts _ oi_RX9_3.1) (hts _ oi_RX9_3.2.1) (hts _ oi_RX9_3.2.2) rfl (by rw [hml]; exact hl.1) rfl dX9_init_1 (Nat.le_of_ble_eq_true rfl) (Nat.le_of_ble_eq_true rfl) ?_
  refine W.eq (g2 := F0 m 4 ls []) rfl ?_
  refine lv_aload_n hx hb dX9_init_4 rfl (lv_at hl 0 rfl) ?_
  refine lv_bipush (v := q_I 10) hx hb dX9_init_5 (by decide) ?_
  refine q_newa (t := 1) (len := 10) (cells' := 1) (slots' := 10) hx hb hts hK hP hS (by decide) aw_1 q_kdC_25 (fun _ => rfl) (Nat.le_of_ble_eq_true rfl) rfl rfl (Nat.le_of_ble_eq_true rfl) (Nat.le_of_ble_eq_true rfl) rfl dX9_init_7 ?_
  clear hP hS; intro H hP hS
  replace hP : q_P D dA q_kdC (q_rho (q_LC.drop 53)) 26 z (z + 26) q_O H := hP
  refine q_putR (L := q_LC.drop 53) (L' := q_LC.drop 52) hx hb hts hown hin hK hP hS (fun k hk => hA k (Nat.lt_of_lt_of_le hk (Nat.le_of_ble_eq_true rfl))) fr_RX9_9 (Nat.le_of_ble_eq_true rfl) q_kdC_24 rfl dX9_init_9 ?_
  clear hP hS; intro H locs hP hS
  replace hP : q_P D dA q_kdC (q_rho (q_LC.drop 52)) 26 z (z + 26) q_O H := hP
  refine lv_aload_n hx hb dX9_init_12 rfl (lv_at hl 0 rfl) ?_
  refine lv_bipush (v := q_I 10) hx hb dX9_init_13 (by decide) ?_
  refine q_newa (t := 1) (len := 10) (cells' := 2) (slots' := 20) hx hb hts hK hP hS (by decide) aw_1 q_kdC_26 (fun _ => rfl) (Nat.le_of_ble_eq_true rfl) rfl rfl (Nat.le_of_ble_eq_true rfl) (Nat.le_of_ble_eq_true rfl) rfl dX9_init_15 ?_
  clear hP hS; intro H hP hS
  replace hP : q_P D dA q_kdC (q_rho (q_LC.drop 52)) 27 z (z + 27) q_O H := hP
  refine q_putR (L := q_LC.drop 52) (L' := q_LC.drop 51) hx hb hts hown hin hK hP hS (fun k hk => hA k (Nat.lt_of_lt_of_le hk (Nat.le_of_ble_eq_true rfl))) fr_RX9_15 (Nat.le_of_ble_eq_true rfl) q_kdC_24 rfl dX9_init_17 ?_
  clear hP hS; intro H locs hP hS
  replace hP : q_P D dA q_kdC (q_rho (q_LC.drop 51)) 27 z (z + 27) q_O H := hP
  refine lv_aload_n hx hb dX9_init_20 rfl (lv_at hl 0 rfl) ?_
  refine lv_iconst (v := q_I 5) hx hb dX9_init_21 rfl ?_
  refine q_newa (t := 1) (len := 5) (cells' := 3) (slots' := 25) hx hb hts hK hP hS (by decide) aw_1 q_kdC_27 (fun _ => rfl) (Nat.le_of_ble_eq_true rfl) rfl rfl (Nat.le_of_ble_eq_true rfl) (Nat.le_of_ble_eq_true rfl) rfl dX9_init_22 ?_
  clear hP hS; intro H hP hS
  replace hP : q_P D dA q_kdC (q_rho (q_LC.drop 51)) 28 z (z + 28) q_O H := hP
  refine q_putR (L := q_LC.drop 51) (L' := q_LC.drop 50) hx hb hts hown hin hK hP hS (fun k hk => hA k (Nat.lt_of_lt_of_le hk (Nat.le_of_ble_eq_true rfl))) fr_RX9_18 (Nat.le_of_ble_eq_true rfl) q_kdC_24 rfl dX9_init_24 ?_
  clear hP hS; intro H locs hP hS
  replace hP : q_P D dA q_kdC (q_rho (q_LC.drop 50)) 28 z (z + 28) q_O H := hP
  refine lv_aload_n hx hb dX9_init_27 rfl (lv_at hl 0 rfl) ?_
  refine q_new (cells' := 4) (slots' := 35) hx hb hts hown hK hP hS nw_RX9_21 q_kdC_28 (q_rho_none (by decide +kernel)) (fun _ => rfl) rfl rfl (Nat.le_of_ble_eq_true rfl) (Nat.le_of_ble_eq_true rfl) dX9_init_28 ?_
  clear hP hS; intro H hP hS _
  replace hP : q_P D dA q_kdC (q_rho (q_LC.drop 50)) 29 z (z + 29) q_O H := hP
  refine lv_dup hx hb dX9_init_31 rfl ?_
  refine q_callI (cells' := 13) (slots' := 1240) (rest := [.ref (z + 28), .ref (z + 24)]) hx hb hml hts hown hK hS gi_RX9_23 (c_init_Hi_28 l D dA) q_blindO (fun U hU hW => ⟨by rw [hU]; exact hP, hK.moved hW, va_AO.moved hW.alike hO⟩) ⟨rfl, rfl, Nat.le_of_ble_eq_true rfl, Nat.le_of_ble_eq_true rfl⟩ rfl rfl ⟨Nat.le_of_ble_eq_true rfl, Nat.le_of_ble_eq_true rfl⟩ hl.1 (Nat.le_of_ble_eq_true rfl) (fun _ g => g) dX9_init_32 ?_
  clear hP hS; intro H locs hP hS _
  refine q_putR (L := q_LC.drop 41) (L' := q_LC.drop 40) hx hb hts hown hin hK hP hS (fun k hk => hA k (Nat.lt_of_lt_of_le hk (Nat.le_of_ble_eq_true rfl))) fr_RX9_24 (Nat.le_of_ble_eq_true rfl) q_kdC_24 rfl dX9_init_35 ?_
  clear hP hS; intro H locs hP hS
  replace hP : q_P D dA q_kdC (q_rho (q_LC.drop 40)) 38 z (z + 38) q_O H := hP
  refine lv_aload_n hx hb dX9_init_38 rfl (lv_at hl 0 rfl) ?_
  refine q_new (cells' := 14) (slots' := 1247) hx hb hts hown hK hP hS nw_RX9_28 q_kdC_38 (q_rho_none (by decide +kernel)) (fun _ => rfl) rfl rfl (Nat.le_of_ble_eq_true rfl) (Nat.le_of_ble_eq_true rfl) dX9_init_39 ?_
  clear hP hS; intro H hP hS _
  replace hP : q_P D dA q_kdC (q_rho (q_LC.drop 40)) 39 z (z + 39) q_O H := hP
  refine lv_dup hx hb dX9_init_42 rfl ?_
  refine q_callI (cells' := 20) (slots' := 3832) (rest := [.ref (z + 38), .ref (z + 24)]) hx hb hml hts hown hK hS gi_RX9_30 (c_init_Ch_38 l D dA) q_blindO (fun U hU hW => ⟨by rw [hU]; exact hP, hK.moved hW, va_AO.moved hW.alike hO⟩) ⟨rfl, rfl, Nat.le_of_ble_eq_true rfl, Nat.le_of_ble_eq_true rfl⟩ rfl rfl ⟨Nat.le_of_ble_eq_true rfl, Nat.le_of_ble_eq_true rfl⟩ hl.1 (Nat.le_of_ble_eq_true rfl) (fun _ g => g) dX9_init_43 ?_
  clear hP hS; intro H locs hP hS _
  refine q_putR (L := q_LC.drop 34) (L' := q_LC.drop 33) hx hb hts hown hin hK hP hS (fun k hk => hA k (Nat.lt_of_lt_of_le hk (Nat.le_of_ble_eq_true rfl))) fr_RX9_31 (Nat.le_of_ble_eq_true rfl) q_kdC_24 rfl dX9_init_46 ?_
  clear hP hS; intro H locs hP hS
  replace hP : q_P D dA q_kdC (q_rho (q_LC.drop 33)) 45 z (z + 45) q_O H := hP
  refine lv_aload_n hx hb dX9_init_49 rfl (lv_at hl 0 rfl) ?_
  refine q_new (cells' := 21) (slots' := 3834) hx hb hts hown hK hP hS nw_RX9_35 q_kdC_45 (q_rho_none (by decide +kernel)) (fun _ => rfl) rfl rfl (Nat.le_of_ble_eq_true rfl) (Nat.le_of_ble_eq_true rfl) dX9_init_50 ?_
  clear hP hS; intro H hP hS _
  replace hP : q_P D dA q_kdC (q_rho (q_LC.drop 33)) 46 z (z + 46) q_O H := hP
  refine lv_dup hx hb dX9_init_53 rfl ?_
  refine q_callI (cells' := 22) (slots' := 3839) (rest := [.ref (z + 45), .ref (z + 24)]) hx hb hml hts hown hK hS gi_RX9_37 (c_init_Sn_45 l D dA) q_blindO (fun U hU hW => ⟨by rw [hU]; exact hP, hK.moved hW, va_AO.moved hW.alike hO⟩) ⟨rfl, rfl, Nat.le_of_ble_eq_true rfl, Nat.le_of_ble_eq_true rfl⟩ rfl rfl ⟨Nat.le_of_ble_eq_true rfl, Nat.le_of_ble_eq_true rfl⟩ hl.1 (Nat.le_of_ble_eq_true rfl) (fun _ g => g) dX9_init_54 ?_
  clear hP hS; intro H locs hP hS _
  refine q_putR (L := q_LC.drop 32) (L' := q_LC.drop 31) hx hb hts hown hin hK hP hS (fun k hk => hA k (Nat.lt_of_lt_of_le hk (Nat.le_of_ble_eq_true rfl))) fr_RX9_38 (Nat.le_of_ble_eq_true rfl) q_kdC_24 rfl dX9_init_57 ?_
  clear hP hS; intro H locs hP hS
  replace hP : q_P D dA q_kdC (q_rho (q_LC.drop 31)) 47 z (z + 47) q_O H := hP
  exact q_retv hx hb hr hlocks hP hS rfl dX9_init_60
set_option maxHeartbeats 4000000 in
set_option maxRecDepth 100000 in
theorem c_init_RT_47 (l : Launch) (D : va_G) (dA : Nat → ClassId) {z : Nat} : Met l yX6_init (q_wc yX6_init cX6_init 1 none) ({ frames := 1, cells := 1, slots := 20, locals := 20 } : Room) (va_Pc [.ref (z + 47)] (q_BO (q_P D dA q_kdC (q_rho (q_LC.drop 30)) 48 z (z + 48) q_O) D dA)) (q_Q none True (q_P D dA q_kdC (q_rho (q_LC.drop 29)) 49 z (z + 49) q_O) (q_A z 77)) 1 20 (q_A z 77) := by
  refine Met.ofW (cc := cX6_init) (maxL := 1) (ret := none) (by decide) rfl ?_
  intro p e s m args below meth c s₁ B hml hv
  obtain ⟨hargs, hP, hK, hO⟩ := hv
  have hx := B.exec
  have hb := B.bytes
  have hr := B.returns
  have hts : ∀ w ∈ q_W, w.before args s = true := fun w hw => atoms_spec (ws := q_wc yX6_init cX6_init 1 none) B.pre w (List.mem_cons_of_mem _ hw)
  have hown : s.vm.findClass RX6 = some m.cls := findClass_of_methodNamed B.named
  have hlocks := B.notSynchronized
  have hin : meth.name = "<init>" := (name_of_methodNamed B.named B.method).1
  have hS : va_S (q_A z 77) s.heap s.heap [] := va_S.rf
  have hA : ∀ k, k < 77 → q_A z 77 (z + k) := fun k hk => ⟨Nat.le_add_right z k, Nat.add_lt_add_left hk z⟩
  have hl := lv_entry [.ref (z + 47)] (n := 1) (Nat.le_of_ble_eq_true rfl)
  refine W.eq (by rw [hargs, lg_entry_eq]) ?_
  generalize (lg_sl [.ref (z + 47)] ++ List.replicate (1 - (lg_sl [.ref (z + 47)]).length) Slot.unset).toArray = ls at hl ⊢
  have hl : lv_has ls 1 [(0, .ref (z + 47))] := hl
  change W p l e ({ frames := 1, cells := 1, slots := 20, locals := 20 } : Room) s m args below meth c s.heap [] 0 0 _ (F0 m 0 ls [])
  refine lv_aload_n hx hb dX6_init_0 rfl (lv_at hl 0 rfl) ?_
  refine W.objInit hx hb hown (hts _ oi_RX6_3.1) (hts _ oi_RX6_3.2.1) (hts _ oi_RX6_3.2.2) rfl (by rw [hml]; exact hl.1) rfl dX6_init_1 (Nat.le_of_ble_eq_true rfl) (Nat.le_of_ble_eq_true rfl) ?_
  refine W.eq (g2 := F0 m 4 ls []) rfl ?_
  refine lv_aload_n hx hb dX6_init_4 rfl (lv_at hl 0 rfl) ?_
  refine lv_bipush (v := q_I 20) hx hb dX6_init_5 (by decide) ?_
  refine q_newa (t := 3) (len := 20) (cells' := 1) (slots' := 20) hx hb hts hK hP hS (by decide) aw_3 q_kdC_48 (fun _ => rfl) (Nat.le_of_ble_eq_true rfl) rfl rfl (Nat.le_of_ble_eq_true rfl) (Nat.le_of_ble_eq_true rfl) rfl dX6_init_7 ?_
  clear hP hS; intro H hP hS
  replace hP : q_P D dA q_kdC (q_rho (q_LC.drop 30)) 49 z (z + 49) q_O H := hP
  refine q_putR (L := q_LC.drop 30) (L' := q_LC.drop 29) hx hb hts hown hin hK hP hS (fun k hk => hA k (Nat.lt_of_lt_of_le hk (Nat.le_of_ble_eq_true rfl))) fr_RX6_9 (Nat.le_of_ble_eq_true rfl) q_kdC_47 rfl dX6_init_9 ?_
  clear hP hS; intro H locs hP hS
  replace hP : q_P D dA q_kdC (q_rho (q_LC.drop 29)) 49 z (z + 49) q_O H := hP
  exact q_retv hx hb hr hlocks hP hS rfl dX6_init_12
set_option maxHeartbeats 4000000 in
set_option maxRecDepth 100000 in
theorem c_init_RB_49 (l : Launch) (D : va_G) (dA : Nat → ClassId) {z : Nat} : Met l yX5_init (q_wc yX5_init cX5_init 1 none) ({ frames := 1, cells := 4, slots := 48, locals := 20 } : Room) (va_Pc [.ref (z + 49)] (q_BO (q_P D dA q_kdC (q_rho (q_LC.drop 28)) 50 z (z + 50) q_O) D dA)) (q_Q none True (q_P D dA q_kdC (q_rho (q_LC.drop 24)) 54 z (z + 54) q_O) (q_A z 77)) 4 48 (q_A z 77) := by
  refine Met.ofW (cc := cX5_init) (maxL := 1) (ret := none) (by decide) rfl ?_
  intro p e s m args below meth c s₁ B hml hv
  obtain ⟨hargs, hP, hK, hO⟩ := hv
  have hx := B.exec
  have hb := B.bytes
  have hr := B.returns
  have hts : ∀ w ∈ q_W, w.before args s = true := fun w hw => atoms_spec (ws := q_wc yX5_init cX5_init 1 none) B.pre w (List.mem_cons_of_mem _ hw)
  have hown : s.vm.findClass RX5 = some m.cls := findClass_of_methodNamed B.named
  have hlocks := B.notSynchronized
  have hin : meth.name = "<init>" := (name_of_methodNamed B.named B.method).1
  have hS : va_S (q_A z 77) s.heap s.heap [] := va_S.rf
  have hA : ∀ k, k < 77 → q_A z 77 (z + k) := fun k hk => ⟨Nat.le_add_right z k, Nat.add_lt_add_left hk z⟩
  have hl := lv_entry [.ref (z + 49)] (n := 1) (Nat.le_of_ble_eq_true rfl)
  refine W.eq (by rw [hargs, lg_entry_eq]) ?_
  generalize (lg_sl [.ref (z + 49)] ++ List.replicate (1 - (lg_sl [.ref (z + 49)]).length) Slot.unset).toArray = ls at hl ⊢
  have hl : lv_has ls 1 [(0, .ref (z + 49))] := hl
  change W p l e ({ frames := 1, cells := 4, slots := 48, locals := 20 } : Room) s m args below meth c s.heap [] 0 0 _ (F0 m 0 ls [])
  refine lv_aload_n hx hb dX5_init_0 rfl (lv_at hl 0 rfl) ?_
  refine W.objInit hx hb hown (hts _ oi_RX5_3.1) (hts _ oi_RX5_3.2.1) (hts _ oi_RX5_3.2.2) rfl (by rw [hml]; exact hl.1) rfl dX5_init_1 (Nat.le_of_ble_eq_true rfl) (Nat.le_of_ble_eq_true rfl) ?_
  refine W.eq (g2 := F0 m 4 ls []) rfl ?_
  refine lv_aload_n hx hb dX5_init_4 rfl (lv_at hl 0 rfl) ?_
  refine lv_bipush (v := q_I 12) hx hb dX5_init_5 (by decide) ?_
  refine q_newa (t := 1) (len := 12) (cells' := 1) (slots' := 12) hx hb hts hK hP hS (by decide) aw_1 q_kdC_50 (fun _ => rfl) (Nat.le_of_ble_eq_true rfl) rfl rfl (Nat.le_of_ble_eq_true rfl) (Nat.le_of_ble_eq_true rfl) rfl dX5_init_7 ?_
  clear hP hS; intro H hP hS
  replace hP : q_P D dA q_kdC (q_rho (q_LC.drop 28)) 51 z (z + 51) q_O H := hP
  refine q_putR (L := q_LC.drop 28) (L' := q_LC.drop 27) hx hb hts hown hin hK hP hS (fun k hk => hA k (Nat.lt_of_lt_of_le hk (Nat.le_of_ble_eq_true rfl))) fr_RX5_9 (Nat.le_of_ble_eq_true rfl) q_kdC_49 rfl dX5_init_9 ?_
  clear hP hS; intro H locs hP hS
  replace hP : q_P D dA q_kdC (q_rho (q_LC.drop 27)) 51 z (z + 51) q_O H := hP
  refine lv_aload_n hx hb dX5_init_12 rfl (lv_at hl 0 rfl) ?_
  refine lv_bipush (v := q_I 12) hx hb dX5_init_13 (by decide) ?_
  refine q_newa (t := 1) (len := 12) (cells' := 2) (slots' := 24) hx hb hts hK hP hS (by decide) aw_1 q_kdC_51 (fun _ => rfl) (Nat.le_of_ble_eq_true rfl) rfl rfl (Nat.le_of_ble_eq_true rfl) (Nat.le_of_ble_eq_true rfl) rfl dX5_init_15 ?_
  clear hP hS; intro H hP hS
  replace hP : q_P D dA q_kdC (q_rho (q_LC.drop 27)) 52 z (z + 52) q_O H := hP
  refine q_putR (L := q_LC.drop 27) (L' := q_LC.drop 26) hx hb hts hown hin hK hP hS (fun k hk => hA k (Nat.lt_of_lt_of_le hk (Nat.le_of_ble_eq_true rfl))) fr_RX5_15 (Nat.le_of_ble_eq_true rfl) q_kdC_49 rfl dX5_init_17 ?_
  clear hP hS; intro H locs hP hS
  replace hP : q_P D dA q_kdC (q_rho (q_LC.drop 26)) 52 z (z + 52) q_O H := hP
  refine lv_aload_n hx hb dX5_init_20 rfl (lv_at hl 0 rfl) ?_
  refine lv_bipush (v := q_I 12) hx hb dX5_init_21 (by decide) ?_
  refine q_newa (t := 1) (len := 12) (cells' := 3) (slots' := 36) hx hb hts hK hP hS (by decide) aw_1 q_kdC_52 (fun _ => rfl) (Nat.le_of_ble_eq_true rfl) rfl rfl (Nat.le_of_ble_eq_true rfl) (Nat.le_of_ble_eq_true rfl) rfl dX5_init_23 ?_
  clear hP hS; intro H hP hS
  replace hP : q_P D dA q_kdC (q_rho (q_LC.drop 26)) 53 z (z + 53) q_O H := hP
  refine q_putR (L := q_LC.drop 26) (L' := q_LC.drop 25) hx hb hts hown hin hK hP hS (fun k hk => hA k (Nat.lt_of_lt_of_le hk (Nat.le_of_ble_eq_true rfl))) fr_RX5_18 (Nat.le_of_ble_eq_true rfl) q_kdC_49 rfl dX5_init_25 ?_
  clear hP hS; intro H locs hP hS
  replace hP : q_P D dA q_kdC (q_rho (q_LC.drop 25)) 53 z (z + 53) q_O H := hP
  refine lv_aload_n hx hb dX5_init_28 rfl (lv_at hl 0 rfl) ?_
  refine lv_bipush (v := q_I 12) hx hb dX5_init_29 (by decide) ?_
  refine q_newa (t := 1) (len := 12) (cells' := 4) (slots' := 48) hx hb hts hK hP hS (by decide) aw_1 q_kdC_53 (fun _ => rfl) (Nat.le_of_ble_eq_true rfl) rfl rfl (Nat.le_of_ble_eq_true rfl) (Nat.le_of_ble_eq_true rfl) rfl dX5_init_31 ?_
  clear hP hS; intro H hP hS
  replace hP : q_P D dA q_kdC (q_rho (q_LC.drop 25)) 54 z (z + 54) q_O H := hP
  refine q_putR (L := q_LC.drop 25) (L' := q_LC.drop 24) hx hb hts hown hin hK hP hS (fun k hk => hA k (Nat.lt_of_lt_of_le hk (Nat.le_of_ble_eq_true rfl))) fr_RX5_21 (Nat.le_of_ble_eq_true rfl) q_kdC_49 rfl dX5_init_33 ?_
  clear hP hS; intro H locs hP hS
  replace hP : q_P D dA q_kdC (q_rho (q_LC.drop 24)) 54 z (z + 54) q_O H := hP
  exact q_retv hx hb hr hlocks hP hS rfl dX5_init_36
set_option maxHeartbeats 4000000 in
set_option maxRecDepth 100000 in
theorem c_init_Co_54 (l : Launch) (D : va_G) (dA : Nat → ClassId) {z : Nat} : Met l yX1_init (q_wc yX1_init cX1_init 1 none) ({ frames := 1, cells := 1, slots := 25, locals := 20 } : Room) (va_Pc [.ref (z + 54)] (q_BO (q_P D dA q_kdC (q_rho (q_LC.drop 23)) 55 z (z + 55) q_O) D dA)) (q_Q none True (q_P D dA q_kdC (q_rho (q_LC.drop 22)) 56 z (z + 56) q_O) (q_A z 77)) 1 25 (q_A z 77) := by
  refine Met.ofW (cc := cX1_init) (maxL := 1) (ret := none) (by decide) rfl ?_
  intro p e s m args below meth c s₁ B hml hv
  obtain ⟨hargs, hP, hK, hO⟩ := hv
  have hx := B.exec
  have hb := B.bytes
  have hr := B.returns
  have hts : ∀ w ∈ q_W, w.before args s = true := fun w hw => atoms_spec (ws := q_wc yX1_init cX1_init 1 none) B.pre w (List.mem_cons_of_mem _ hw)
  have hown : s.vm.findClass RX1 = some m.cls := findClass_of_methodNamed B.named
  have hlocks := B.notSynchronized
  have hin : meth.name = "<init>" := (name_of_methodNamed B.named B.method).1
  have hS : va_S (q_A z 77) s.heap s.heap [] := va_S.rf
  have hA : ∀ k, k < 77 → q_A z 77 (z + k) := fun k hk => ⟨Nat.le_add_right z k, Nat.add_lt_add_left hk z⟩
  have hl := lv_entry [.ref (z + 54)] (n := 1) (Nat.le_of_ble_eq_true rfl)
  refine W.eq (by rw [hargs, lg_entry_eq]) ?_
  generalize (lg_sl [.ref (z + 54)] ++ List.replicate (1 - (lg_sl [.ref (z + 54)]).length) Slot.unset).toArray = ls at hl ⊢
  have hl : lv_has ls 1 [(0, .ref (z + 54))] := hl
  change W p l e ({ frames := 1, cells := 1, slots := 25, locals := 20 } : Room) s m args below meth c s.heap [] 0 0 _ (F0 m 0 ls [])
  refine lv_aload_n hx hb dX1_init_0 rfl (lv_at hl 0 rfl) ?_
  refine W.objInit hx hb hown (hts _ oi_RX1_3.1) (hts _ oi_RX1_3.2.1) (hts _ oi_RX1_3.2.2) rfl (by rw [hml]; exact hl.1) rfl dX1_init_1 (Nat.le_of_ble_eq_true rfl) (Nat.le_of_ble_eq_true rfl) ?_
  refine W.eq (g2 := F0 m 4 ls []) rfl ?_
  refine lv_aload_n hx hb dX1_init_4 rfl (lv_at hl 0 rfl) ?_
  refine lv_bipush (v := q_I 25) hx hb dX1_init_5 (by decide) ?_
  refine q_newa (t := 1) (len := 25) (cells' := 1) (slots' := 25) hx hb hts hK hP hS (by decide) aw_1 q_kdC_55 (fun _ => rfl) (Nat.le_of_ble_eq_true rfl) rfl rfl (Nat.le_of_ble_eq_true rfl) (Nat.le_of_ble_eq_true rfl) rfl dX1_init_7 ?_
  clear hP hS; intro H hP hS
  replace hP : q_P D dA q_kdC (q_rho (q_LC.drop 23)) 56 z (z + 56) q_O H := hP
  refine q_putR (L := q_LC.drop 23) (L' := q_LC.drop 22) hx hb hts hown hin hK hP hS (fun k hk => hA k (Nat.lt_of_lt_of_le hk (Nat.le_of_ble_eq_true rfl))) fr_RX1_9 (Nat.le_of_ble_eq_true rfl) q_kdC_54 rfl dX1_init_9 ?_
  clear hP hS; intro H locs hP hS
  replace hP : q_P D dA q_kdC (q_rho (q_LC.drop 22)) 56 z (z + 56) q_O H := hP
  exact q_retv hx hb hr hlocks hP hS rfl dX1_init_12
set_option maxHeartbeats 4000000 in
set_option maxRecDepth 100000 in
theorem c_init_St_56 (l : Launch) (D : va_G) (dA : Nat → ClassId) {z : Nat} : Met l yX8_init (q_wc yX8_init cX8_init 1 none) ({ frames := 1, cells := 2, slots := 12, locals := 20 } : Room) (va_Pc [.ref (z + 56)] (q_BO (q_P D dA q_kdC (q_rho (q_LC.drop 21)) 57 z (z + 57) q_O) D dA)) (q_Q none True (q_P D dA q_kdC (q_rho (q_LC.drop 19)) 59 z (z + 59) q_O) (q_A z 77)) 2 12 (q_A z 77) := by
  refine Met.ofW (cc := cX8_init) (maxL := 1) (ret := none) (by decide) rfl ?_
  intro p e s m args below meth c s₁ B hml hv
  obtain ⟨hargs, hP, hK, hO⟩ := hv
  have hx := B.exec
  have hb := B.bytes
  have hr := B.returns
  have hts : ∀ w ∈ q_W, w.before args s = true := fun w hw => atoms_spec (ws := q_wc yX8_init cX8_init 1 none) B.pre w (List.mem_cons_of_mem _ hw)
  have hown : s.vm.findClass RX8 = some m.cls := findClass_of_methodNamed B.named
  have hlocks := B.notSynchronized
  have hin : meth.name = "<init>" := (name_of_methodNamed B.named B.method).1
  have hS : va_S (q_A z 77) s.heap s.heap [] := va_S.rf
  have hA : ∀ k, k < 77 → q_A z 77 (z + k) := fun k hk => ⟨Nat.le_add_right z k, Nat.add_lt_add_left hk z⟩
  have hl := lv_entry [.ref (z + 56)] (n := 1) (Nat.le_of_ble_eq_true rfl)
  refine W.eq (by rw [hargs, lg_entry_eq]) ?_
  generalize (lg_sl [.ref (z + 56)] ++ List.replicate (1 - (lg_sl [.ref (z + 56)]).length) Slot.unset).toArray = ls at hl ⊢
  have hl : lv_has ls 1 [(0, .ref (z + 56))] := hl
  change W p l e ({ frames := 1, cells := 2, slots := 12, locals := 20 } : Room) s m args below meth c s.heap [] 0 0 _ (F0 m 0 ls [])
  refine lv_aload_n hx hb dX8_init_0 rfl (lv_at hl 0 rfl) ?_
  refine W.objInit hx hb hown (hts _ oi_RX8_3.1) (hts _ oi_RX8_3.2.1) (hts _ oi_RX8_3.2.2) rfl (by rw [hml]; exact hl.1) rfl dX8_init_1 (Nat.le_of_ble_eq_true rfl) (Nat.le_of_ble_eq_true rfl) ?_
  refine W.eq (g2 := F0 m 4 ls []) rfl ?_
  refine lv_aload_n hx hb dX8_init_4 rfl (lv_at hl 0 rfl) ?_
  refine lv_bipush (v := q_I 10) hx hb dX8_init_5 (by decide) ?_
  refine q_newa (t := 1) (len := 10) (cells' := 1) (slots' := 10) hx hb hts hK hP hS (by decide) aw_1 q_kdC_57 (fun _ => rfl) (Nat.le_of_ble_eq_true rfl) rfl rfl (Nat.le_of_ble_eq_true rfl) (Nat.le_of_ble_eq_true rfl) rfl dX8_init_7 ?_
  clear hP hS; intro H hP hS
  replace hP : q_P D dA q_kdC (q_rho (q_LC.drop 21)) 58 z (z + 58) q_O H := hP
  refine q_putR (L := q_LC.drop 21) (L' := q_LC.drop 20) hx hb hts hown hin hK hP hS (fun k hk => hA k (Nat.lt_of_lt_of_le hk (Nat.le_of_ble_eq_true rfl))) fr_RX8_9 (Nat.le_of_ble_eq_true rfl) q_kdC_56 rfl dX8_init_9 ?_
  clear hP hS; intro H locs hP hS
  replace hP : q_P D dA q_kdC (q_rho (q_LC.drop 20)) 58 z (z + 58) q_O H := hP
  refine lv_aload_n hx hb dX8_init_12 rfl (lv_at hl 0 rfl) ?_
  refine lv_iconst (v := q_I 2) hx hb dX8_init_13 rfl ?_
  refine q_newa (t := 1) (len := 2) (cells' := 2) (slots' := 12) hx hb hts hK hP hS (by decide) aw_1 q_kdC_58 (fun _ => rfl) (Nat.le_of_ble_eq_true rfl) rfl rfl (Nat.le_of_ble_eq_true rfl) (Nat.le_of_ble_eq_true rfl) rfl dX8_init_14 ?_
  clear hP hS; intro H hP hS
  replace hP : q_P D dA q_kdC (q_rho (q_LC.drop 20)) 59 z (z + 59) q_O H := hP
  refine q_putR (L := q_LC.drop 20) (L' := q_LC.drop 19) hx hb hts hown hin hK hP hS (fun k hk => hA k (Nat.lt_of_lt_of_le hk (Nat.le_of_ble_eq_true rfl))) fr_RX8_15 (Nat.le_of_ble_eq_true rfl) q_kdC_56 rfl dX8_init_16 ?_
  clear hP hS; intro H locs hP hS
  replace hP : q_P D dA q_kdC (q_rho (q_LC.drop 19)) 59 z (z + 59) q_O H := hP
  exact q_retv hx hb hr hlocks hP hS rfl dX8_init_19
set_option maxHeartbeats 4000000 in
set_option maxRecDepth 100000 in
theorem c_init_Fl_61 (l : Launch) (D : va_G) (dA : Nat → ClassId) {z : Nat} : Met l yX2_init (q_wc yX2_init cX2_init 1 none) ({ frames := 1, cells := 7, slots := 217, locals := 20 } : Room) (va_Pc [.ref (z + 61)] (q_BO (q_P D dA q_kdC (q_rho (q_LC.drop 18)) 62 z (z + 62) q_O) D dA)) (q_Q none True (q_P D dA q_kdC (q_rho (q_LC.drop 11)) 69 z (z + 69) q_O) (q_A z 77)) 7 217 (q_A z 77) := by
  refine Met.ofW (cc := cX2_init) (maxL := 1) (ret := none) (by decide) rfl ?_
  intro p e s m args below meth c s₁ B hml hv
  obtain ⟨hargs, hP, hK, hO⟩ := hv
  have hx := B.exec
  have hb := B.bytes
  have hr := B.returns
  have hts : ∀ w ∈ q_W, w.before args s = true := fun w hw => atoms_spec (ws := q_wc yX2_init cX2_init 1 none) B.pre w (List.mem_cons_of_mem _ hw)
  have hown : s.vm.findClass RX2 = some m.cls := findClass_of_methodNamed B.named
  have hlocks := B.notSynchronized
  have hin : meth.name = "<init>" := (name_of_methodNamed B.named B.method).1
  have hS : va_S (q_A z 77) s.heap s.heap [] := va_S.rf
  have hA : ∀ k, k < 77 → q_A z 77 (z + k) := fun k hk => ⟨Nat.le_add_right z k, Nat.add_lt_add_left hk z⟩
  have hl := lv_entry [.ref (z + 61)] (n := 1) (Nat.le_of_ble_eq_true rfl)
  refine W.eq (by rw [hargs, lg_entry_eq]) ?_
  generalize (lg_sl [.ref (z + 61)] ++ List.replicate (1 - (lg_sl [.ref (z + 61)]).length) Slot.unset).toArray = ls at hl ⊢
  have hl : lv_has ls 1 [(0, .ref (z + 61))] := hl
  change W p l e ({ frames := 1, cells := 7, slots := 217, locals := 20 } : Room) s m args below meth c s.heap [] 0 0 _ (F0 m 0 ls [])
  refine lv_aload_n hx hb dX2_init_0 rfl (lv_at hl 0 rfl) ?_
  refine W.objInit hx hb hown (hts _ oi_RX2_3.1) (hts _ oi_RX2_3.2.1) (hts _ oi_RX2_3.2.2) rfl (by rw [hml]; exact hl.1) rfl dX2_init_1 (Nat.le_of_ble_eq_true rfl) (Nat.le_of_ble_eq_true rfl) ?_
  refine W.eq (g2 := F0 m 4 ls []) rfl ?_
  refine lv_aload_n hx hb dX2_init_4 rfl (lv_at hl 0 rfl) ?_
  refine lv_bipush (v := q_I 49) hx hb dX2_init_5 (by decide) ?_
  refine q_newa (t := 1) (len := 49) (cells' := 1) (slots' := 49) hx hb hts hK hP hS (by decide) aw_1 q_kdC_62 (fun _ => rfl) (Nat.le_of_ble_eq_true rfl) rfl rfl (Nat.le_of_ble_eq_true rfl) (Nat.le_of_ble_eq_true rfl) rfl dX2_init_7 ?_
  clear hP hS; intro H hP hS
  replace hP : q_P D dA q_kdC (q_rho (q_LC.drop 18)) 63 z (z + 63) q_O H := hP
  refine q_putR (L := q_LC.drop 18) (L' := q_LC.drop 17) hx hb hts hown hin hK hP hS (fun k hk => hA k (Nat.lt_of_lt_of_le hk (Nat.le_of_ble_eq_true rfl))) fr_RX2_11 (Nat.le_of_ble_eq_true rfl) q_kdC_61 rfl dX2_init_9 ?_
  clear hP hS; intro H locs hP hS
  replace hP : q_P D dA q_kdC (q_rho (q_LC.drop 17)) 63 z (z + 63) q_O H := hP
  refine lv_aload_n hx hb dX2_init_12 rfl (lv_at hl 0 rfl) ?_
  refine lv_bipush (v := q_I 49) hx hb dX2_init_13 (by decide) ?_
  refine q_newa (t := 1) (len := 49) (cells' := 2) (slots' := 98) hx hb hts hK hP hS (by decide) aw_1 q_kdC_63 (fun _ => rfl) (Nat.le_of_ble_eq_true rfl) rfl rfl (Nat.le_of_ble_eq_true rfl) (Nat.le_of_ble_eq_true rfl) rfl dX2_init_15 ?_
  clear hP hS; intro H hP hS
  replace hP : q_P D dA q_kdC (q_rho (q_LC.drop 17)) 64 z (z + 64) q_O H := hP
  refine q_putR (L := q_LC.drop 17) (L' := q_LC.drop 16) hx hb hts hown hin hK hP hS (fun k hk => hA k (Nat.lt_of_lt_of_le hk (Nat.le_of_ble_eq_true rfl))) fr_RX2_15 (Nat.le_of_ble_eq_true rfl) q_kdC_61 rfl dX2_init_17 ?_
  clear hP hS; intro H locs hP hS
  replace hP : q_P D dA q_kdC (q_rho (q_LC.drop 16)) 64 z (z + 64) q_O H := hP
  refine lv_aload_n hx hb dX2_init_20 rfl (lv_at hl 0 rfl) ?_
  refine lv_bipush (v := q_I 49) hx hb dX2_init_21 (by decide) ?_
  refine q_newa (t := 1) (len := 49) (cells' := 3) (slots' := 147) hx hb hts hK hP hS (by decide) aw_1 q_kdC_64 (fun _ => rfl) (Nat.le_of_ble_eq_true rfl) rfl rfl (Nat.le_of_ble_eq_true rfl) (Nat.le_of_ble_eq_true rfl) rfl dX2_init_23 ?_
  clear hP hS; intro H hP hS
  replace hP : q_P D dA q_kdC (q_rho (q_LC.drop 16)) 65 z (z + 65) q_O H := hP
  refine q_putR (L := q_LC.drop 16) (L' := q_LC.drop 15) hx hb hts hown hin hK hP hS (fun k hk => hA k (Nat.lt_of_lt_of_le hk (Nat.le_of_ble_eq_true rfl))) fr_RX2_18 (Nat.le_of_ble_eq_true rfl) q_kdC_61 rfl dX2_init_25 ?_
  clear hP hS; intro H locs hP hS
  replace hP : q_P D dA q_kdC (q_rho (q_LC.drop 15)) 65 z (z + 65) q_O H := hP
  refine lv_aload_n hx hb dX2_init_28 rfl (lv_at hl 0 rfl) ?_
  refine lv_bipush (v := q_I 49) hx hb dX2_init_29 (by decide) ?_
  refine q_newa (t := 2) (len := 49) (cells' := 4) (slots' := 196) hx hb hts hK hP hS (by decide) aw_2 q_kdC_65 (fun _ => rfl) (Nat.le_of_ble_eq_true rfl) rfl rfl (Nat.le_of_ble_eq_true rfl) (Nat.le_of_ble_eq_true rfl) rfl dX2_init_31 ?_
  clear hP hS; intro H hP hS
  replace hP : q_P D dA q_kdC (q_rho (q_LC.drop 15)) 66 z (z + 66) q_O H := hP
  refine q_putR (L := q_LC.drop 15) (L' := q_LC.drop 14) hx hb hts hown hin hK hP hS (fun k hk => hA k (Nat.lt_of_lt_of_le hk (Nat.le_of_ble_eq_true rfl))) fr_RX2_21 (Nat.le_of_ble_eq_true rfl) q_kdC_61 rfl dX2_init_33 ?_
  clear hP hS; intro H locs hP hS
  replace hP : q_P D dA q_kdC (q_rho (q_LC.drop 14)) 66 z (z + 66) q_O H := hP
  refine lv_aload_n hx hb dX2_init_36 rfl (lv_at hl 0 rfl) ?_
  refine lv_bipush (v := q_I 7) hx hb dX2_init_37 (by decide) ?_
  refine q_newa (t := 1) (len := 7) (cells' := 5) (slots' := 203) hx hb hts hK hP hS (by decide) aw_1 q_kdC_66 (fun _ => rfl) (Nat.le_of_ble_eq_true rfl) rfl rfl (Nat.le_of_ble_eq_true rfl) (Nat.le_of_ble_eq_true rfl) rfl dX2_init_39 ?_
  clear hP hS; intro H hP hS
  replace hP : q_P D dA q_kdC (q_rho (q_LC.drop 14)) 67 z (z + 67) q_O H := hP
  refine q_putR (L := q_LC.drop 14) (L' := q_LC.drop 13) hx hb hts hown hin hK hP hS (fun k hk => hA k (Nat.lt_of_lt_of_le hk (Nat.le_of_ble_eq_true rfl))) fr_RX2_25 (Nat.le_of_ble_eq_true rfl) q_kdC_61 rfl dX2_init_41 ?_
  clear hP hS; intro H locs hP hS
  replace hP : q_P D dA q_kdC (q_rho (q_LC.drop 13)) 67 z (z + 67) q_O H := hP
  refine lv_aload_n hx hb dX2_init_44 rfl (lv_at hl 0 rfl) ?_
  refine lv_bipush (v := q_I 7) hx hb dX2_init_45 (by decide) ?_
  refine q_newa (t := 2) (len := 7) (cells' := 6) (slots' := 210) hx hb hts hK hP hS (by decide) aw_2 q_kdC_67 (fun _ => rfl) (Nat.le_of_ble_eq_true rfl) rfl rfl (Nat.le_of_ble_eq_true rfl) (Nat.le_of_ble_eq_true rfl) rfl dX2_init_47 ?_
  clear hP hS; intro H hP hS
  replace hP : q_P D dA q_kdC (q_rho (q_LC.drop 13)) 68 z (z + 68) q_O H := hP
  refine q_putR (L := q_LC.drop 13) (L' := q_LC.drop 12) hx hb hts hown hin hK hP hS (fun k hk => hA k (Nat.lt_of_lt_of_le hk (Nat.le_of_ble_eq_true rfl))) fr_RX2_28 (Nat.le_of_ble_eq_true rfl) q_kdC_61 rfl dX2_init_49 ?_
  clear hP hS; intro H locs hP hS
  replace hP : q_P D dA q_kdC (q_rho (q_LC.drop 12)) 68 z (z + 68) q_O H := hP
  refine lv_aload_n hx hb dX2_init_52 rfl (lv_at hl 0 rfl) ?_
  refine lv_bipush (v := q_I 7) hx hb dX2_init_53 (by decide) ?_
  refine q_newa (t := 1) (len := 7) (cells' := 7) (slots' := 217) hx hb hts hK hP hS (by decide) aw_1 q_kdC_68 (fun _ => rfl) (Nat.le_of_ble_eq_true rfl) rfl rfl (Nat.le_of_ble_eq_true rfl) (Nat.le_of_ble_eq_true rfl) rfl dX2_init_55 ?_
  clear hP hS; intro H hP hS
  replace hP : q_P D dA q_kdC (q_rho (q_LC.drop 12)) 69 z (z + 69) q_O H := hP
  refine q_putR (L := q_LC.drop 12) (L' := q_LC.drop 11) hx hb hts hown hin hK hP hS (fun k hk => hA k (Nat.lt_of_lt_of_le hk (Nat.le_of_ble_eq_true rfl))) fr_RX2_31 (Nat.le_of_ble_eq_true rfl) q_kdC_61 rfl dX2_init_57 ?_
  clear hP hS; intro H locs hP hS
  replace hP : q_P D dA q_kdC (q_rho (q_LC.drop 11)) 69 z (z + 69) q_O H := hP
  exact q_retv hx hb hr hlocks hP hS rfl dX2_init_60
set_option maxHeartbeats 4000000 in
set_option maxRecDepth 100000 in
theorem c_init_Fl_69 (l : Launch) (D : va_G) (dA : Nat → ClassId) {z : Nat} : Met l yX2_init (q_wc yX2_init cX2_init 1 none) ({ frames := 1, cells := 7, slots := 217, locals := 20 } : Room) (va_Pc [.ref (z + 69)] (q_BO (q_P D dA q_kdC (q_rho (q_LC.drop 10)) 70 z (z + 70) q_O) D dA)) (q_Q none True (q_P D dA q_kdC (q_rho (q_LC.drop 3)) 77 z (z + 77) q_O) (q_A z 77)) 7 217 (q_A z 77) := by
  refine Met.ofW (cc := cX2_init) (maxL := 1) (ret := none) (by decide) rfl ?_
  intro p e s m args below meth c s₁ B hml hv
  obtain ⟨hargs, hP, hK, hO⟩ := hv
  have hx := B.exec
  have hb := B.bytes
  have hr := B.returns
  have hts : ∀ w ∈ q_W, w.before args s = true := fun w hw => atoms_spec (ws := q_wc yX2_init cX2_init 1 none) B.pre w (List.mem_cons_of_mem _ hw)
  have hown : s.vm.findClass RX2 = some m.cls := findClass_of_methodNamed B.named
  have hlocks := B.notSynchronized
  have hin : meth.name = "<init>" := (name_of_methodNamed B.named B.method).1
  have hS : va_S (q_A z 77) s.heap s.heap [] := va_S.rf
  have hA : ∀ k, k < 77 → q_A z 77 (z + k) := fun k hk => ⟨Nat.le_add_right z k, Nat.add_lt_add_left hk z⟩
  have hl := lv_entry [.ref (z + 69)] (n := 1) (Nat.le_of_ble_eq_true rfl)
  refine W.eq (by rw [hargs, lg_entry_eq]) ?_
  generalize (lg_sl [.ref (z + 69)] ++ List.replicate (1 - (lg_sl [.ref (z + 69)]).length) Slot.unset).toArray = ls at hl ⊢
  have hl : lv_has ls 1 [(0, .ref (z + 69))] := hl
  change W p l e ({ frames := 1, cells := 7, slots := 217, locals := 20 } : Room) s m args below meth c s.heap [] 0 0 _ (F0 m 0 ls [])
  refine lv_aload_n hx hb dX2_init_0 rfl (lv_at hl 0 rfl) ?_
  refine W.objInit hx hb hown (hts _ oi_RX2_3.1) (hts _ oi_RX2_3.2.1) (hts _ oi_RX2_3.2.2) rfl (by rw [hml]; exact hl.1) rfl dX2_init_1 (Nat.le_of_ble_eq_true rfl) (Nat.le_of_ble_eq_true rfl) ?_
  refine W.eq (g2 := F0 m 4 ls []) rfl ?_
  refine lv_aload_n hx hb dX2_init_4 rfl (lv_at hl 0 rfl) ?_
  refine lv_bipush (v := q_I 49) hx hb dX2_init_5 (by decide) ?_
  refine q_newa (t := 1) (len := 49) (cells' := 1) (slots' := 49) hx hb hts hK hP hS (by decide) aw_1 q_kdC_70 (fun _ => rfl) (Nat.le_of_ble_eq_true rfl) rfl rfl (Nat.le_of_ble_eq_true rfl) (Nat.le_of_ble_eq_true rfl) rfl dX2_init_7 ?_
  clear hP hS; intro H hP hS
  replace hP : q_P D dA q_kdC (q_rho (q_LC.drop 10)) 71 z (z + 71) q_O H := hP
  refine q_putR (L := q_LC.drop 10) (L' := q_LC.drop 9) hx hb hts hown hin hK hP hS (fun k hk => hA k (Nat.lt_of_lt_of_le hk (Nat.le_of_ble_eq_true rfl))) fr_RX2_11 (Nat.le_of_ble_eq_true rfl) q_kdC_69 rfl dX2_init_9 ?_
  clear hP hS; intro H locs hP hS
  replace hP : q_P D dA q_kdC (q_rho (q_LC.drop 9)) 71 z (z + 71) q_O H := hP
  refine lv_aload_n hx hb dX2_init_12 rfl (lv_at hl 0 rfl) ?_
  refine lv_bipush (v := q_I 49) hx hb dX2_init_13 (by decide) ?_
  refine q_newa (t := 1) (len := 49) (cells' := 2) (slots' := 98) hx hb hts hK hP hS (by decide) aw_1 q_kdC_71 (fun _ => rfl) (Nat.le_of_ble_eq_true rfl) rfl rfl (Nat.le_of_ble_eq_true rfl) (Nat.le_of_ble_eq_true rfl) rfl dX2_init_15 ?_
  clear hP hS; intro H hP hS
  replace hP : q_P D dA q_kdC (q_rho (q_LC.drop 9)) 72 z (z + 72) q_O H := hP
  refine q_putR (L := q_LC.drop 9) (L' := q_LC.drop 8) hx hb hts hown hin hK hP hS (fun k hk => hA k (Nat.lt_of_lt_of_le hk (Nat.le_of_ble_eq_true rfl))) fr_RX2_15 (Nat.le_of_ble_eq_true rfl) q_kdC_69 rfl dX2_init_17 ?_
  clear hP hS; intro H locs hP hS
  replace hP : q_P D dA q_kdC (q_rho (q_LC.drop 8)) 72 z (z + 72) q_O H := hP
  refine lv_aload_n hx hb dX2_init_20 rfl (lv_at hl 0 rfl) ?_
  refine lv_bipush (v := q_I 49) hx hb dX2_init_21 (by decide) ?_
  refine q_newa (t := 1) (len := 49) (cells' := 3) (slots' := 147) hx hb hts hK hP hS (by decide) aw_1 q_kdC_72 (fun _ => rfl) (Nat.le_of_ble_eq_true rfl) rfl rfl (Nat.le_of_ble_eq_true rfl) (Nat.le_of_ble_eq_true rfl) rfl dX2_init_23 ?_
  clear hP hS; intro H hP hS
  replace hP : q_P D dA q_kdC (q_rho (q_LC.drop 8)) 73 z (z + 73) q_O H := hP
  refine q_putR (L := q_LC.drop 8) (L' := q_LC.drop 7) hx hb hts hown hin hK hP hS (fun k hk => hA k (Nat.lt_of_lt_of_le hk (Nat.le_of_ble_eq_true rfl))) fr_RX2_18 (Nat.le_of_ble_eq_true rfl) q_kdC_69 rfl dX2_init_25 ?_
  clear hP hS; intro H locs hP hS
  replace hP : q_P D dA q_kdC (q_rho (q_LC.drop 7)) 73 z (z + 73) q_O H := hP
  refine lv_aload_n hx hb dX2_init_28 rfl (lv_at hl 0 rfl) ?_
  refine lv_bipush (v := q_I 49) hx hb dX2_init_29 (by decide) ?_
  refine q_newa (t := 2) (len := 49) (cells' := 4) (slots' := 196) hx hb hts hK hP hS (by decide) aw_2 q_kdC_73 (fun _ => rfl) (Nat.le_of_ble_eq_true rfl) rfl rfl (Nat.le_of_ble_eq_true rfl) (Nat.le_of_ble_eq_true rfl) rfl dX2_init_31 ?_
  clear hP hS; intro H hP hS
  replace hP : q_P D dA q_kdC (q_rho (q_LC.drop 7)) 74 z (z + 74) q_O H := hP
  refine q_putR (L := q_LC.drop 7) (L' := q_LC.drop 6) hx hb hts hown hin hK hP hS (fun k hk => hA k (Nat.lt_of_lt_of_le hk (Nat.le_of_ble_eq_true rfl))) fr_RX2_21 (Nat.le_of_ble_eq_true rfl) q_kdC_69 rfl dX2_init_33 ?_
  clear hP hS; intro H locs hP hS
  replace hP : q_P D dA q_kdC (q_rho (q_LC.drop 6)) 74 z (z + 74) q_O H := hP
  refine lv_aload_n hx hb dX2_init_36 rfl (lv_at hl 0 rfl) ?_
  refine lv_bipush (v := q_I 7) hx hb dX2_init_37 (by decide) ?_
  refine q_newa (t := 1) (len := 7) (cells' := 5) (slots' := 203) hx hb hts hK hP hS (by decide) aw_1 q_kdC_74 (fun _ => rfl) (Nat.le_of_ble_eq_true rfl) rfl rfl (Nat.le_of_ble_eq_true rfl) (Nat.le_of_ble_eq_true rfl) rfl dX2_init_39 ?_
  clear hP hS; intro H hP hS
  replace hP : q_P D dA q_kdC (q_rho (q_LC.drop 6)) 75 z (z + 75) q_O H := hP
  refine q_putR (L := q_LC.drop 6) (L' := q_LC.drop 5) hx hb hts hown hin hK hP hS (fun k hk => hA k (Nat.lt_of_lt_of_le hk (Nat.le_of_ble_eq_true rfl))) fr_RX2_25 (Nat.le_of_ble_eq_true rfl) q_kdC_69 rfl dX2_init_41 ?_
  clear hP hS; intro H locs hP hS
  replace hP : q_P D dA q_kdC (q_rho (q_LC.drop 5)) 75 z (z + 75) q_O H := hP
  refine lv_aload_n hx hb dX2_init_44 rfl (lv_at hl 0 rfl) ?_
  refine lv_bipush (v := q_I 7) hx hb dX2_init_45 (by decide) ?_
  refine q_newa (t := 2) (len := 7) (cells' := 6) (slots' := 210) hx hb hts hK hP hS (by decide) aw_2 q_kdC_75 (fun _ => rfl) (Nat.le_of_ble_eq_true rfl) rfl rfl (Nat.le_of_ble_eq_true rfl) (Nat.le_of_ble_eq_true rfl) rfl dX2_init_47 ?_
  clear hP hS; intro H hP hS
  replace hP : q_P D dA q_kdC (q_rho (q_LC.drop 5)) 76 z (z + 76) q_O H := hP
  refine q_putR (L := q_LC.drop 5) (L' := q_LC.drop 4) hx hb hts hown hin hK hP hS (fun k hk => hA k (Nat.lt_of_lt_of_le hk (Nat.le_of_ble_eq_true rfl))) fr_RX2_28 (Nat.le_of_ble_eq_true rfl) q_kdC_69 rfl dX2_init_49 ?_
  clear hP hS; intro H locs hP hS
  replace hP : q_P D dA q_kdC (q_rho (q_LC.drop 4)) 76 z (z + 76) q_O H := hP
  refine lv_aload_n hx hb dX2_init_52 rfl (lv_at hl 0 rfl) ?_
  refine lv_bipush (v := q_I 7) hx hb dX2_init_53 (by decide) ?_
  refine q_newa (t := 1) (len := 7) (cells' := 7) (slots' := 217) hx hb hts hK hP hS (by decide) aw_1 q_kdC_76 (fun _ => rfl) (Nat.le_of_ble_eq_true rfl) rfl rfl (Nat.le_of_ble_eq_true rfl) (Nat.le_of_ble_eq_true rfl) rfl dX2_init_55 ?_
  clear hP hS; intro H hP hS
  replace hP : q_P D dA q_kdC (q_rho (q_LC.drop 4)) 77 z (z + 77) q_O H := hP
  refine q_putR (L := q_LC.drop 4) (L' := q_LC.drop 3) hx hb hts hown hin hK hP hS (fun k hk => hA k (Nat.lt_of_lt_of_le hk (Nat.le_of_ble_eq_true rfl))) fr_RX2_31 (Nat.le_of_ble_eq_true rfl) q_kdC_69 rfl dX2_init_57 ?_
  clear hP hS; intro H locs hP hS
  replace hP : q_P D dA q_kdC (q_rho (q_LC.drop 3)) 77 z (z + 77) q_O H := hP
  exact q_retv hx hb hr hlocks hP hS rfl dX2_init_60
set_option maxHeartbeats 4000000 in
set_option maxRecDepth 100000 in
theorem c_init_Re_59 (l : Launch) (D : va_G) (dA : Nat → ClassId) {z : Nat} : Met l yX4_init (q_wc yX4_init cX4_init 1 none) ({ frames := 2, cells := 17, slots := 450, locals := 40 } : Room) (va_Pc [.ref (z + 59)] (q_BO (q_P D dA q_kdC (q_rho (q_LC.drop 18)) 60 z (z + 60) q_O) D dA)) (q_Q none True (q_P D dA q_kdC (q_rho (q_LC.drop 1)) 77 z (z + 77) q_O) (q_A z 77)) 17 450 (q_A z 77) := by
  refine Met.ofW (cc := cX4_init) (maxL := 1) (ret := none) (by decide) rfl ?_
  intro p e s m args below meth c s₁ B hml hv
  obtain ⟨hargs, hP, hK, hO⟩ := hv
  have hx := B.exec
  have hb := B.bytes
  have hr := B.returns
  have hts : ∀ w ∈ q_W, w.before args s = true := fun w hw => atoms_spec (ws := q_wc yX4_init cX4_init 1 none) B.pre w (List.mem_cons_of_mem _ hw)
  have hown : s.vm.findClass RX4 = some m.cls := findClass_of_methodNamed B.named
  have hlocks := B.notSynchronized
  have hin : meth.name = "<init>" := (name_of_methodNamed B.named B.method).1
  have hS : va_S (q_A z 77) s.heap s.heap [] := va_S.rf
  have hA : ∀ k, k < 77 → q_A z 77 (z + k) := fun k hk => ⟨Nat.le_add_right z k, Nat.add_lt_add_left hk z⟩
  have hl := lv_entry [.ref (z + 59)] (n := 1) (Nat.le_of_ble_eq_true rfl)
  refine W.eq (by rw [hargs, lg_entry_eq]) ?_
  generalize (lg_sl [.ref (z + 59)] ++ List.replicate (1 - (lg_sl [.ref (z + 59)]).length) Slot.unset).toArray = ls at hl ⊢
  have hl : lv_has ls 1 [(0, .ref (z + 59))] := hl
  change W p l e ({ frames := 2, cells := 17, slots := 450, locals := 40 } : Room) s m args below meth c s.heap [] 0 0 _ (F0 m 0 ls [])
  refine lv_aload_n hx hb dX4_init_0 rfl (lv_at hl 0 rfl) ?_
  refine W.objInit hx hb hown (hts _ oi_RX4_3.1) (hts _ oi_RX4_3.2.1) (hts _ oi_RX4_3.2.2) rfl (by rw [hml]; exact hl.1) rfl dX4_init_1 (Nat.le_of_ble_eq_true rfl) (Nat.le_of_ble_eq_true rfl) ?_
  refine W.eq (g2 := F0 m 4 ls []) rfl ?_
  refine lv_aload_n hx hb dX4_init_4 rfl (lv_at hl 0 rfl) ?_
  refine lv_iconst (v := q_I 2) hx hb dX4_init_5 rfl ?_
  refine q_anew (cells' := 1) (slots' := 2) hx hb hts hown hK hO hP hS (q_inT 284 (by decide +kernel) rfl) q_kdC_60 (q_rho_none (by decide +kernel)) rfl rfl (Nat.le_of_ble_eq_true rfl) (Nat.le_of_ble_eq_true rfl) dX4_init_6 ?_
  clear hP hS; intro H hP hS
  replace hP : q_P D dA q_kdC (q_rho (q_LC.drop 18)) 61 z (z + 61) q_O H := hP
  refine lv_dup hx hb dX4_init_9 rfl ?_
  refine lv_iconst (v := q_I 0) hx hb dX4_init_10 rfl ?_
  refine q_new (cells' := 2) (slots' := 9) hx hb hts hown hK hP hS nw_RX4_9 q_kdC_61 (q_rho_none (by decide +kernel)) (fun _ => rfl) rfl rfl (Nat.le_of_ble_eq_true rfl) (Nat.le_of_ble_eq_true rfl) dX4_init_11 ?_
  clear hP hS; intro H hP hS _
  replace hP : q_P D dA q_kdC (q_rho (q_LC.drop 18)) 62 z (z + 62) q_O H := hP
  refine lv_dup hx hb dX4_init_14 rfl ?_
  refine q_callI (cells' := 9) (slots' := 226) (rest := [.ref (z + 61), .int (q_I 0), .ref (z + 60), .ref (z + 60), .ref (z + 59)]) hx hb hml hts hown hK hS gi_RX4_11 (c_init_Fl_61 l D dA) q_blindO (fun U hU hW => ⟨by rw [hU]; exact hP, hK.moved hW, va_AO.moved hW.alike hO⟩) ⟨rfl, rfl, Nat.le_of_ble_eq_true rfl, Nat.le_of_ble_eq_true rfl⟩ rfl rfl ⟨Nat.le_of_ble_eq_true rfl, Nat.le_of_ble_eq_true rfl⟩ hl.1 (Nat.le_of_ble_eq_true rfl) (fun _ g => g) dX4_init_15 ?_
  clear hP hS; intro H locs hP hS _
  refine q_aastR (L := q_LC.drop 11) (L' := q_LC.drop 10) hx hb hK hP hS (fun k hk => hA k (Nat.lt_of_lt_of_le hk (Nat.le_of_ble_eq_true rfl))) (Nat.le_of_ble_eq_true rfl) q_kdC_60 (Nat.le_of_ble_eq_true rfl) q_kdC_61 (i := 0) (by decide) rfl rfl dX4_init_18 ?_
  clear hP hS; intro H locs hP hS
  replace hP : q_P D dA q_kdC (q_rho (q_LC.drop 10)) 69 z (z + 69) q_O H := hP
  refine lv_dup hx hb dX4_init_19 rfl ?_
  refine lv_iconst (v := q_I 1) hx hb dX4_init_20 rfl ?_
  refine q_new (cells' := 10) (slots' := 233) hx hb hts hown hK hP hS nw_RX4_9 q_kdC_69 (q_rho_none (by decide +kernel)) (fun _ => rfl) rfl rfl (Nat.le_of_ble_eq_true rfl) (Nat.le_of_ble_eq_true rfl) dX4_init_21 ?_
  clear hP hS; intro H hP hS _
  replace hP : q_P D dA q_kdC (q_rho (q_LC.drop 10)) 70 z (z + 70) q_O H := hP
  refine lv_dup hx hb dX4_init_24 rfl ?_
  refine q_callI (cells' := 17) (slots' := 450) (rest := [.ref (z + 69), .int (q_I 1), .ref (z + 60), .ref (z + 60), .ref (z + 59)]) hx hb hml hts hown hK hS gi_RX4_11 (c_init_Fl_69 l D dA) q_blindO (fun U hU hW => ⟨by rw [hU]; exact hP, hK.moved hW, va_AO.moved hW.alike hO⟩) ⟨rfl, rfl, Nat.le_of_ble_eq_true rfl, Nat.le_of_ble_eq_true rfl⟩ rfl rfl ⟨Nat.le_of_ble_eq_true rfl, Nat.le_of_ble_eq_true rfl⟩ hl.1 (Nat.le_of_ble_eq_true rfl) (fun _ g => g) dX4_init_25 ?_
  clear hP hS; intro H locs hP hS _
  refine q_aastR (L := q_LC.drop 3) (L' := q_LC.drop 2) hx hb hK hP hS (fun k hk => hA k (Nat.lt_of_lt_of_le hk (Nat.le_of_ble_eq_true rfl))) (Nat.le_of_ble_eq_true rfl) q_kdC_60 (Nat.le_of_ble_eq_true rfl) q_kdC_69 (i := 1) (by decide) rfl rfl dX4_init_28 ?_
  clear hP hS; intro H locs hP hS
  replace hP : q_P D dA q_kdC (q_rho (q_LC.drop 2)) 77 z (z + 77) q_O H := hP
  refine q_putR (L := q_LC.drop 2) (L' := q_LC.drop 1) hx hb hts hown hin hK hP hS (fun k hk => hA k (Nat.lt_of_lt_of_le hk (Nat.le_of_ble_eq_true rfl))) fr_RX4_12 (Nat.le_of_ble_eq_true rfl) q_kdC_59 rfl dX4_init_29 ?_
  clear hP hS; intro H locs hP hS
  replace hP : q_P D dA q_kdC (q_rho (q_LC.drop 1)) 77 z (z + 77) q_O H := hP
  exact q_retv hx hb hr hlocks hP hS rfl dX4_init_32
set_option maxHeartbeats 4000000 in
set_option maxRecDepth 100000 in
theorem c_init_CR_0 (l : Launch) (D : va_G) (dA : Nat → ClassId) {z : Nat} {μo : q_M} (h : f_CR_startWith 3 q_O = some μo) : Met l yX10_init (q_wc yX10_init cX10_init 1 none) ({ frames := 5, cells := 76, slots := 8265, locals := 106 } : Room) (va_Pc [.ref (z + 0)] (q_BO (q_P D dA q_kdC (q_rho (q_LC.drop 76)) 1 z (z + 1) q_O) D dA)) (q_Q none True (q_P D dA q_kdC q_rhoC 77 z (z + 77) μo) (q_A z 77)) 76 8265 (q_A z 77) := by
  refine Met.ofW (cc := cX10_init) (maxL := 1) (ret := none) (by decide) rfl ?_
  intro p e s m args below meth c s₁ B hml hv
  obtain ⟨hargs, hP, hK, hO⟩ := hv
  have hx := B.exec
  have hb := B.bytes
  have hr := B.returns
  have hts : ∀ w ∈ q_W, w.before args s = true := fun w hw => atoms_spec (ws := q_wc yX10_init cX10_init 1 none) B.pre w (List.mem_cons_of_mem _ hw)
  have hown : s.vm.findClass RX10 = some m.cls := findClass_of_methodNamed B.named
  have hlocks := B.notSynchronized
  have hin : meth.name = "<init>" := (name_of_methodNamed B.named B.method).1
  have hS : va_S (q_A z 77) s.heap s.heap [] := va_S.rf
  have hA : ∀ k, k < 77 → q_A z 77 (z + k) := fun k hk => ⟨Nat.le_add_right z k, Nat.add_lt_add_left hk z⟩
  have hl := lv_entry [.ref (z + 0)] (n := 1) (Nat.le_of_ble_eq_true rfl)
  refine W.eq (by rw [hargs, lg_entry_eq]) ?_
  generalize (lg_sl [.ref (z + 0)] ++ List.replicate (1 - (lg_sl [.ref (z + 0)]).length) Slot.unset).toArray = ls at hl ⊢
  have hl : lv_has ls 1 [(0, .ref (z + 0))] := hl
  change W p l e ({ frames := 5, cells := 76, slots := 8265, locals := 106 } : Room) s m args below meth c s.heap [] 0 0 _ (F0 m 0 ls [])
  refine lv_aload_n hx hb dX10_init_0 rfl (lv_at hl 0 rfl) ?_
  refine W.objInit hx hb hown (hts _ oi_RX10_1.1) (hts _ oi_RX10_1.2.1) (hts _ oi_RX10_1.2.2) rfl (by rw [hml]; exact hl.1) rfl dX10_init_1 (Nat.le_of_ble_eq_true rfl) (Nat.le_of_ble_eq_true rfl) ?_
  refine W.eq (g2 := F0 m 4 ls []) rfl ?_
  refine lv_aload_n hx hb dX10_init_4 rfl (lv_at hl 0 rfl) ?_
  refine q_new (cells' := 1) (slots' := 7) hx hb hts hown hK hP hS nw_RX10_7 q_kdC_1 (q_rho_none (by decide +kernel)) (fun _ => rfl) rfl rfl (Nat.le_of_ble_eq_true rfl) (Nat.le_of_ble_eq_true rfl) dX10_init_5 ?_
  clear hP hS; intro H hP hS _
  replace hP : q_P D dA q_kdC (q_rho (q_LC.drop 76)) 2 z (z + 2) q_O H := hP
  refine lv_dup hx hb dX10_init_8 rfl ?_
  refine q_callI (cells' := 23) (slots' := 3846) (rest := [.ref (z + 1), .ref (z + 0)]) hx hb hml hts hown hK hS gi_RX10_9 (c_init_Wo_1 l D dA) q_blindO (fun U hU hW => ⟨by rw [hU]; exact hP, hK.moved hW, va_AO.moved hW.alike hO⟩) ⟨rfl, rfl, Nat.le_of_ble_eq_true rfl, Nat.le_of_ble_eq_true rfl⟩ rfl rfl ⟨Nat.le_of_ble_eq_true rfl, Nat.le_of_ble_eq_true rfl⟩ hl.1 (Nat.le_of_ble_eq_true rfl) (fun _ g => g) dX10_init_9 ?_
  clear hP hS; intro H locs hP hS _
  refine q_putR (L := q_LC.drop 54) (L' := q_LC.drop 53) hx hb hts hown hin hK hP hS (fun k hk => hA k (Nat.lt_of_lt_of_le hk (Nat.le_of_ble_eq_true rfl))) fr_RX10_10 (Nat.le_of_ble_eq_true rfl) q_kdC_0 rfl dX10_init_12 ?_
  clear hP hS; intro H locs hP hS
  replace hP : q_P D dA q_kdC (q_rho (q_LC.drop 53)) 24 z (z + 24) q_O H := hP
  refine lv_aload_n hx hb dX10_init_15 rfl (lv_at hl 0 rfl) ?_
  refine q_new (cells' := 24) (slots' := 3853) hx hb hts hown hK hP hS nw_RX10_7 q_kdC_24 (q_rho_none (by decide +kernel)) (fun _ => rfl) rfl rfl (Nat.le_of_ble_eq_true rfl) (Nat.le_of_ble_eq_true rfl) dX10_init_16 ?_
  clear hP hS; intro H hP hS _
  replace hP : q_P D dA q_kdC (q_rho (q_LC.drop 53)) 25 z (z + 25) q_O H := hP
  refine lv_dup hx hb dX10_init_19 rfl ?_
  refine q_callI (cells' := 46) (slots' := 7692) (rest := [.ref (z + 24), .ref (z + 0)]) hx hb hml hts hown hK hS gi_RX10_9 (c_init_Wo_24 l D dA) q_blindO (fun U hU hW => ⟨by rw [hU]; exact hP, hK.moved hW, va_AO.moved hW.alike hO⟩) ⟨rfl, rfl, Nat.le_of_ble_eq_true rfl, Nat.le_of_ble_eq_true rfl⟩ rfl rfl ⟨Nat.le_of_ble_eq_true rfl, Nat.le_of_ble_eq_true rfl⟩ hl.1 (Nat.le_of_ble_eq_true rfl) (fun _ g => g) dX10_init_20 ?_
  clear hP hS; intro H locs hP hS _
  refine q_putR (L := q_LC.drop 31) (L' := q_LC.drop 30) hx hb hts hown hin hK hP hS (fun k hk => hA k (Nat.lt_of_lt_of_le hk (Nat.le_of_ble_eq_true rfl))) fr_RX10_16 (Nat.le_of_ble_eq_true rfl) q_kdC_0 rfl dX10_init_23 ?_
  clear hP hS; intro H locs hP hS
  replace hP : q_P D dA q_kdC (q_rho (q_LC.drop 30)) 47 z (z + 47) q_O H := hP
  refine lv_aload_n hx hb dX10_init_26 rfl (lv_at hl 0 rfl) ?_
  refine q_new (cells' := 47) (slots' := 7698) hx hb hts hown hK hP hS nw_RX10_19 q_kdC_47 (q_rho_none (by decide +kernel)) (fun _ => rfl) rfl rfl (Nat.le_of_ble_eq_true rfl) (Nat.le_of_ble_eq_true rfl) dX10_init_27 ?_
  clear hP hS; intro H hP hS _
  replace hP : q_P D dA q_kdC (q_rho (q_LC.drop 30)) 48 z (z + 48) q_O H := hP
  refine lv_dup hx hb dX10_init_30 rfl ?_
  refine q_callI (cells' := 48) (slots' := 7718) (rest := [.ref (z + 47), .ref (z + 0)]) hx hb hml hts hown hK hS gi_RX10_21 (c_init_RT_47 l D dA) q_blindO (fun U hU hW => ⟨by rw [hU]; exact hP, hK.moved hW, va_AO.moved hW.alike hO⟩) ⟨rfl, rfl, Nat.le_of_ble_eq_true rfl, Nat.le_of_ble_eq_true rfl⟩ rfl rfl ⟨Nat.le_of_ble_eq_true rfl, Nat.le_of_ble_eq_true rfl⟩ hl.1 (Nat.le_of_ble_eq_true rfl) (fun _ g => g) dX10_init_31 ?_
  clear hP hS; intro H locs hP hS _
  refine q_putR (L := q_LC.drop 29) (L' := q_LC.drop 28) hx hb hts hown hin hK hP hS (fun k hk => hA k (Nat.lt_of_lt_of_le hk (Nat.le_of_ble_eq_true rfl))) fr_RX10_22 (Nat.le_of_ble_eq_true rfl) q_kdC_0 rfl dX10_init_34 ?_
  clear hP hS; intro H locs hP hS
  replace hP : q_P D dA q_kdC (q_rho (q_LC.drop 28)) 49 z (z + 49) q_O H := hP
  refine lv_aload_n hx hb dX10_init_37 rfl (lv_at hl 0 rfl) ?_
  refine q_new (cells' := 49) (slots' := 7723) hx hb hts hown hK hP hS nw_RX10_26 q_kdC_49 (q_rho_none (by decide +kernel)) (fun _ => rfl) rfl rfl (Nat.le_of_ble_eq_true rfl) (Nat.le_of_ble_eq_true rfl) dX10_init_38 ?_
  clear hP hS; intro H hP hS _
  replace hP : q_P D dA q_kdC (q_rho (q_LC.drop 28)) 50 z (z + 50) q_O H := hP
  refine lv_dup hx hb dX10_init_41 rfl ?_
  refine q_callI (cells' := 53) (slots' := 7771) (rest := [.ref (z + 49), .ref (z + 0)]) hx hb hml hts hown hK hS gi_RX10_28 (c_init_RB_49 l D dA) q_blindO (fun U hU hW => ⟨by rw [hU]; exact hP, hK.moved hW, va_AO.moved hW.alike hO⟩) ⟨rfl, rfl, Nat.le_of_ble_eq_true rfl, Nat.le_of_ble_eq_true rfl⟩ rfl rfl ⟨Nat.le_of_ble_eq_true rfl, Nat.le_of_ble_eq_true rfl⟩ hl.1 (Nat.le_of_ble_eq_true rfl) (fun _ g => g) dX10_init_42 ?_
  clear hP hS; intro H locs hP hS _
  refine q_putR (L := q_LC.drop 24) (L' := q_LC.drop 23) hx hb hts hown hin hK hP hS (fun k hk => hA k (Nat.lt_of_lt_of_le hk (Nat.le_of_ble_eq_true rfl))) fr_RX10_29 (Nat.le_of_ble_eq_true rfl) q_kdC_0 rfl dX10_init_45 ?_
  clear hP hS; intro H locs hP hS
  replace hP : q_P D dA q_kdC (q_rho (q_LC.drop 23)) 54 z (z + 54) q_O H := hP
  refine lv_aload_n hx hb dX10_init_48 rfl (lv_at hl 0 rfl) ?_
  refine q_new (cells' := 54) (slots' := 7774) hx hb hts hown hK hP hS nw_RX10_33 q_kdC_54 (q_rho_none (by decide +kernel)) (fun _ => rfl) rfl rfl (Nat.le_of_ble_eq_true rfl) (Nat.le_of_ble_eq_true rfl) dX10_init_49 ?_
  clear hP hS; intro H hP hS _
  replace hP : q_P D dA q_kdC (q_rho (q_LC.drop 23)) 55 z (z + 55) q_O H := hP
  refine lv_dup hx hb dX10_init_52 rfl ?_
  refine q_callI (cells' := 55) (slots' := 7799) (rest := [.ref (z + 54), .ref (z + 0)]) hx hb hml hts hown hK hS gi_RX10_35 (c_init_Co_54 l D dA) q_blindO (fun U hU hW => ⟨by rw [hU]; exact hP, hK.moved hW, va_AO.moved hW.alike hO⟩) ⟨rfl, rfl, Nat.le_of_ble_eq_true rfl, Nat.le_of_ble_eq_true rfl⟩ rfl rfl ⟨Nat.le_of_ble_eq_true rfl, Nat.le_of_ble_eq_true rfl⟩ hl.1 (Nat.le_of_ble_eq_true rfl) (fun _ g => g) dX10_init_53 ?_
  clear hP hS; intro H locs hP hS _
  refine q_putR (L := q_LC.drop 22) (L' := q_LC.drop 21) hx hb hts hown hin hK hP hS (fun k hk => hA k (Nat.lt_of_lt_of_le hk (Nat.le_of_ble_eq_true rfl))) fr_RX10_36 (Nat.le_of_ble_eq_true rfl) q_kdC_0 rfl dX10_init_56 ?_
  clear hP hS; intro H locs hP hS
  replace hP : q_P D dA q_kdC (q_rho (q_LC.drop 21)) 56 z (z + 56) q_O H := hP
  refine lv_aload_n hx hb dX10_init_59 rfl (lv_at hl 0 rfl) ?_
  refine q_new (cells' := 56) (slots' := 7802) hx hb hts hown hK hP hS nw_RX10_40 q_kdC_56 (q_rho_none (by decide +kernel)) (fun _ => rfl) rfl rfl (Nat.le_of_ble_eq_true rfl) (Nat.le_of_ble_eq_true rfl) dX10_init_60 ?_
  clear hP hS; intro H hP hS _
  replace hP : q_P D dA q_kdC (q_rho (q_LC.drop 21)) 57 z (z + 57) q_O H := hP
  refine lv_dup hx hb dX10_init_63 rfl ?_
  refine q_callI (cells' := 58) (slots' := 7814) (rest := [.ref (z + 56), .ref (z + 0)]) hx hb hml hts hown hK hS gi_RX10_42 (c_init_St_56 l D dA) q_blindO (fun U hU hW => ⟨by rw [hU]; exact hP, hK.moved hW, va_AO.moved hW.alike hO⟩) ⟨rfl, rfl, Nat.le_of_ble_eq_true rfl, Nat.le_of_ble_eq_true rfl⟩ rfl rfl ⟨Nat.le_of_ble_eq_true rfl, Nat.le_of_ble_eq_true rfl⟩ hl.1 (Nat.le_of_ble_eq_true rfl) (fun _ g => g) dX10_init_64 ?_
  clear hP hS; intro H locs hP hS _
  refine q_putR (L := q_LC.drop 19) (L' := q_LC.drop 18) hx hb hts hown hin hK hP hS (fun k hk => hA k (Nat.lt_of_lt_of_le hk (Nat.le_of_ble_eq_true rfl))) fr_RX10_43 (Nat.le_of_ble_eq_true rfl) q_kdC_0 rfl dX10_init_67 ?_
  clear hP hS; intro H locs hP hS
  replace hP : q_P D dA q_kdC (q_rho (q_LC.drop 18)) 59 z (z + 59) q_O H := hP
  refine lv_aload_n hx hb dX10_init_70 rfl (lv_at hl 0 rfl) ?_
  refine q_new (cells' := 59) (slots' := 7815) hx hb hts hown hK hP hS nw_RX10_47 q_kdC_59 (q_rho_none (by decide +kernel)) (fun _ => rfl) rfl rfl (Nat.le_of_ble_eq_true rfl) (Nat.le_of_ble_eq_true rfl) dX10_init_71 ?_
  clear hP hS; intro H hP hS _
  replace hP : q_P D dA q_kdC (q_rho (q_LC.drop 18)) 60 z (z + 60) q_O H := hP
  refine lv_dup hx hb dX10_init_74 rfl ?_
  refine q_callI (cells' := 76) (slots' := 8265) (rest := [.ref (z + 59), .ref (z + 0)]) hx hb hml hts hown hK hS gi_RX10_49 (c_init_Re_59 l D dA) q_blindO (fun U hU hW => ⟨by rw [hU]; exact hP, hK.moved hW, va_AO.moved hW.alike hO⟩) ⟨rfl, rfl, Nat.le_of_ble_eq_true rfl, Nat.le_of_ble_eq_true rfl⟩ rfl rfl ⟨Nat.le_of_ble_eq_true rfl, Nat.le_of_ble_eq_true rfl⟩ hl.1 (Nat.le_of_ble_eq_true rfl) (fun _ g => g) dX10_init_75 ?_
  clear hP hS; intro H locs hP hS _
  refine q_putR (L := q_LC.drop 1) (L' := q_LC.drop 0) hx hb hts hown hin hK hP hS (fun k hk => hA k (Nat.lt_of_lt_of_le hk (Nat.le_of_ble_eq_true rfl))) fr_RX10_50 (Nat.le_of_ble_eq_true rfl) q_kdC_0 rfl dX10_init_78 ?_
  clear hP hS; intro H locs hP hS
  replace hP : q_P D dA q_kdC (q_rho (q_LC.drop 0)) 77 z (z + 77) q_O H := hP
  refine lv_aload_n hx hb dX10_init_81 rfl (lv_at hl 0 rfl) ?_
  refine lv_iconst (v := q_I 3) hx hb dX10_init_82 rfl ?_
  replace hP : q_P D dA q_kdC q_rhoC 77 z (z + 77) q_O H := hP
  refine q_callV hx hb hml hts hown hK hP hS (As := [.int (q_I 3)]) (rest := []) (st1 := []) cv_RX10_54 (c_CR_startWith l D dA (q_r 3 rfl) h) (Nat.le_of_ble_eq_true rfl) q_kdC_0 rfl ⟨rfl, rfl, Nat.le_of_ble_eq_true rfl, Nat.le_of_ble_eq_true rfl⟩ ⟨Nat.le_of_ble_eq_true rfl, Nat.le_of_ble_eq_true rfl⟩ rfl hl.1 rfl (Nat.le_of_ble_eq_true rfl) rfl (fun _ g => g) dX10_init_83 ?_
  clear hP hS; intro H locs _ hP hS _
  exact q_retv hx hb hr hlocks hP hS rfl dX10_init_86
set_option maxHeartbeats 4000000 in
set_option maxRecDepth 100000 in
theorem c_init_M_0 (l : Launch) (D : va_G) (dA : Nat → ClassId) {z : Nat} {N : Nat} {μo : q_M} (h : f_M_begin N 3 q_O = some μo) : Met l yX11_init (q_wc yX11_init cX11_init 1 none) ({ frames := 2, cells := 21, slots := 10945, locals := 43 } : Room) (va_Pc [.ref (z + 0)] (q_BO (q_P D dA q_kdM (q_rho (q_LM.drop 21)) 1 z (z + 1) q_O) D dA)) (q_Q none True (q_P D dA q_kdM q_rhoM 22 z (z + 22) μo) (q_A z 22)) 21 10945 (q_A z 22) := by
  refine Met.ofW (cc := cX11_init) (maxL := 1) (ret := none) (by decide) rfl ?_
  intro p e s m args below meth c s₁ B hml hv
  obtain ⟨hargs, hP, hK, hO⟩ := hv
  have hx := B.exec
  have hb := B.bytes
  have hr := B.returns
  have hts : ∀ w ∈ q_W, w.before args s = true := fun w hw => atoms_spec (ws := q_wc yX11_init cX11_init 1 none) B.pre w (List.mem_cons_of_mem _ hw)
  have hown : s.vm.findClass RX11 = some m.cls := findClass_of_methodNamed B.named
  have hlocks := B.notSynchronized
  have hin : meth.name = "<init>" := (name_of_methodNamed B.named B.method).1
  have hS : va_S (q_A z 22) s.heap s.heap [] := va_S.rf
  have hA : ∀ k, k < 22 → q_A z 22 (z + k) := fun k hk => ⟨Nat.le_add_right z k, Nat.add_lt_add_left hk z⟩
  have hl := lv_entry [.ref (z + 0)] (n := 1) (Nat.le_of_ble_eq_true rfl)
  refine W.eq (by rw [hargs, lg_entry_eq]) ?_
  generalize (lg_sl [.ref (z + 0)] ++ List.replicate (1 - (lg_sl [.ref (z + 0)]).length) Slot.unset).toArray = ls at hl ⊢
  have hl : lv_has ls 1 [(0, .ref (z + 0))] := hl
  change W p l e ({ frames := 2, cells := 21, slots := 10945, locals := 43 } : Room) s m args below meth c s.heap [] 0 0 _ (F0 m 0 ls [])
  refine lv_aload_n hx hb dX11_init_0 rfl (lv_at hl 0 rfl) ?_
  refine W.objInit hx hb hown (hts _ oi_RX11_1.1) (hts _ oi_RX11_1.2.1) (hts _ oi_RX11_1.2.2) rfl (by rw [hml]; exact hl.1) rfl dX11_init_1 (Nat.le_of_ble_eq_true rfl) (Nat.le_of_ble_eq_true rfl) ?_
  refine W.eq (g2 := F0 m 4 ls []) rfl ?_
  refine lv_aload_n hx hb dX11_init_4 rfl (lv_at hl 0 rfl) ?_
  refine lv_sipush (v := q_I 5104) hx hb dX11_init_5 (by decide) ?_
  refine q_newa (t := 1) (len := 5104) (cells' := 1) (slots' := 5104) hx hb hts hK hP hS (by decide) aw_1 q_kdM_1 (fun _ => rfl) (Nat.le_of_ble_eq_true rfl) rfl rfl (Nat.le_of_ble_eq_true rfl) (Nat.le_of_ble_eq_true rfl) rfl dX11_init_8 ?_
  clear hP hS; intro H hP hS
  replace hP : q_P D dA q_kdM (q_rho (q_LM.drop 21)) 2 z (z + 2) q_O H := hP
  refine q_putR (L := q_LM.drop 21) (L' := q_LM.drop 20) hx hb hts hown hin hK hP hS (fun k hk => hA k (Nat.lt_of_lt_of_le hk (Nat.le_of_ble_eq_true rfl))) fr_RX11_7 (Nat.le_of_ble_eq_true rfl) q_kdM_0 rfl dX11_init_10 ?_
  clear hP hS; intro H locs hP hS
  replace hP : q_P D dA q_kdM (q_rho (q_LM.drop 20)) 2 z (z + 2) q_O H := hP
  refine lv_aload_n hx hb dX11_init_13 rfl (lv_at hl 0 rfl) ?_
  refine lv_sipush (v := q_I 5104) hx hb dX11_init_14 (by decide) ?_
  refine q_newa (t := 1) (len := 5104) (cells' := 2) (slots' := 10208) hx hb hts hK hP hS (by decide) aw_1 q_kdM_2 (fun _ => rfl) (Nat.le_of_ble_eq_true rfl) rfl rfl (Nat.le_of_ble_eq_true rfl) (Nat.le_of_ble_eq_true rfl) rfl dX11_init_17 ?_
  clear hP hS; intro H hP hS
  replace hP : q_P D dA q_kdM (q_rho (q_LM.drop 20)) 3 z (z + 3) q_O H := hP
  refine q_putR (L := q_LM.drop 20) (L' := q_LM.drop 19) hx hb hts hown hin hK hP hS (fun k hk => hA k (Nat.lt_of_lt_of_le hk (Nat.le_of_ble_eq_true rfl))) fr_RX11_13 (Nat.le_of_ble_eq_true rfl) q_kdM_0 rfl dX11_init_19 ?_
  clear hP hS; intro H locs hP hS
  replace hP : q_P D dA q_kdM (q_rho (q_LM.drop 19)) 3 z (z + 3) q_O H := hP
  refine lv_aload_n hx hb dX11_init_22 rfl (lv_at hl 0 rfl) ?_
  refine lv_bipush (v := q_I 20) hx hb dX11_init_23 (by decide) ?_
  refine q_newa (t := 3) (len := 20) (cells' := 3) (slots' := 10228) hx hb hts hK hP hS (by decide) aw_3 q_kdM_3 (fun _ => rfl) (Nat.le_of_ble_eq_true rfl) rfl rfl (Nat.le_of_ble_eq_true rfl) (Nat.le_of_ble_eq_true rfl) rfl dX11_init_25 ?_
  clear hP hS; intro H hP hS
  replace hP : q_P D dA q_kdM (q_rho (q_LM.drop 19)) 4 z (z + 4) q_O H := hP
  refine q_putR (L := q_LM.drop 19) (L' := q_LM.drop 18) hx hb hts hown hin hK hP hS (fun k hk => hA k (Nat.lt_of_lt_of_le hk (Nat.le_of_ble_eq_true rfl))) fr_RX11_16 (Nat.le_of_ble_eq_true rfl) q_kdM_0 rfl dX11_init_27 ?_
  clear hP hS; intro H locs hP hS
  replace hP : q_P D dA q_kdM (q_rho (q_LM.drop 18)) 4 z (z + 4) q_O H := hP
  refine lv_aload_n hx hb dX11_init_30 rfl (lv_at hl 0 rfl) ?_
  refine lv_bipush (v := q_I 12) hx hb dX11_init_31 (by decide) ?_
  refine q_newa (t := 1) (len := 12) (cells' := 4) (slots' := 10240) hx hb hts hK hP hS (by decide) aw_1 q_kdM_4 (fun _ => rfl) (Nat.le_of_ble_eq_true rfl) rfl rfl (Nat.le_of_ble_eq_true rfl) (Nat.le_of_ble_eq_true rfl) rfl dX11_init_33 ?_
  clear hP hS; intro H hP hS
  replace hP : q_P D dA q_kdM (q_rho (q_LM.drop 18)) 5 z (z + 5) q_O H := hP
  refine q_putR (L := q_LM.drop 18) (L' := q_LM.drop 17) hx hb hts hown hin hK hP hS (fun k hk => hA k (Nat.lt_of_lt_of_le hk (Nat.le_of_ble_eq_true rfl))) fr_RX11_20 (Nat.le_of_ble_eq_true rfl) q_kdM_0 rfl dX11_init_35 ?_
  clear hP hS; intro H locs hP hS
  replace hP : q_P D dA q_kdM (q_rho (q_LM.drop 17)) 5 z (z + 5) q_O H := hP
  refine lv_aload_n hx hb dX11_init_38 rfl (lv_at hl 0 rfl) ?_
  refine lv_bipush (v := q_I 12) hx hb dX11_init_39 (by decide) ?_
  refine q_newa (t := 1) (len := 12) (cells' := 5) (slots' := 10252) hx hb hts hK hP hS (by decide) aw_1 q_kdM_5 (fun _ => rfl) (Nat.le_of_ble_eq_true rfl) rfl rfl (Nat.le_of_ble_eq_true rfl) (Nat.le_of_ble_eq_true rfl) rfl dX11_init_41 ?_
  clear hP hS; intro H hP hS
  replace hP : q_P D dA q_kdM (q_rho (q_LM.drop 17)) 6 z (z + 6) q_O H := hP
  refine q_putR (L := q_LM.drop 17) (L' := q_LM.drop 16) hx hb hts hown hin hK hP hS (fun k hk => hA k (Nat.lt_of_lt_of_le hk (Nat.le_of_ble_eq_true rfl))) fr_RX11_23 (Nat.le_of_ble_eq_true rfl) q_kdM_0 rfl dX11_init_43 ?_
  clear hP hS; intro H locs hP hS
  replace hP : q_P D dA q_kdM (q_rho (q_LM.drop 16)) 6 z (z + 6) q_O H := hP
  refine lv_aload_n hx hb dX11_init_46 rfl (lv_at hl 0 rfl) ?_
  refine lv_bipush (v := q_I 12) hx hb dX11_init_47 (by decide) ?_
  refine q_newa (t := 1) (len := 12) (cells' := 6) (slots' := 10264) hx hb hts hK hP hS (by decide) aw_1 q_kdM_6 (fun _ => rfl) (Nat.le_of_ble_eq_true rfl) rfl rfl (Nat.le_of_ble_eq_true rfl) (Nat.le_of_ble_eq_true rfl) rfl dX11_init_49 ?_
  clear hP hS; intro H hP hS
  replace hP : q_P D dA q_kdM (q_rho (q_LM.drop 16)) 7 z (z + 7) q_O H := hP
  refine q_putR (L := q_LM.drop 16) (L' := q_LM.drop 15) hx hb hts hown hin hK hP hS (fun k hk => hA k (Nat.lt_of_lt_of_le hk (Nat.le_of_ble_eq_true rfl))) fr_RX11_26 (Nat.le_of_ble_eq_true rfl) q_kdM_0 rfl dX11_init_51 ?_
  clear hP hS; intro H locs hP hS
  replace hP : q_P D dA q_kdM (q_rho (q_LM.drop 15)) 7 z (z + 7) q_O H := hP
  refine lv_aload_n hx hb dX11_init_54 rfl (lv_at hl 0 rfl) ?_
  refine lv_bipush (v := q_I 12) hx hb dX11_init_55 (by decide) ?_
  refine q_newa (t := 1) (len := 12) (cells' := 7) (slots' := 10276) hx hb hts hK hP hS (by decide) aw_1 q_kdM_7 (fun _ => rfl) (Nat.le_of_ble_eq_true rfl) rfl rfl (Nat.le_of_ble_eq_true rfl) (Nat.le_of_ble_eq_true rfl) rfl dX11_init_57 ?_
  clear hP hS; intro H hP hS
  replace hP : q_P D dA q_kdM (q_rho (q_LM.drop 15)) 8 z (z + 8) q_O H := hP
  refine q_putR (L := q_LM.drop 15) (L' := q_LM.drop 14) hx hb hts hown hin hK hP hS (fun k hk => hA k (Nat.lt_of_lt_of_le hk (Nat.le_of_ble_eq_true rfl))) fr_RX11_29 (Nat.le_of_ble_eq_true rfl) q_kdM_0 rfl dX11_init_59 ?_
  clear hP hS; intro H locs hP hS
  replace hP : q_P D dA q_kdM (q_rho (q_LM.drop 14)) 8 z (z + 8) q_O H := hP
  refine lv_aload_n hx hb dX11_init_62 rfl (lv_at hl 0 rfl) ?_
  refine lv_bipush (v := q_I 25) hx hb dX11_init_63 (by decide) ?_
  refine q_newa (t := 1) (len := 25) (cells' := 8) (slots' := 10301) hx hb hts hK hP hS (by decide) aw_1 q_kdM_8 (fun _ => rfl) (Nat.le_of_ble_eq_true rfl) rfl rfl (Nat.le_of_ble_eq_true rfl) (Nat.le_of_ble_eq_true rfl) rfl dX11_init_65 ?_
  clear hP hS; intro H hP hS
  replace hP : q_P D dA q_kdM (q_rho (q_LM.drop 14)) 9 z (z + 9) q_O H := hP
  refine q_putR (L := q_LM.drop 14) (L' := q_LM.drop 13) hx hb hts hown hin hK hP hS (fun k hk => hA k (Nat.lt_of_lt_of_le hk (Nat.le_of_ble_eq_true rfl))) fr_RX11_32 (Nat.le_of_ble_eq_true rfl) q_kdM_0 rfl dX11_init_67 ?_
  clear hP hS; intro H locs hP hS
  replace hP : q_P D dA q_kdM (q_rho (q_LM.drop 13)) 9 z (z + 9) q_O H := hP
  refine lv_aload_n hx hb dX11_init_70 rfl (lv_at hl 0 rfl) ?_
  refine lv_bipush (v := q_I 48) hx hb dX11_init_71 (by decide) ?_
  refine q_newa (t := 1) (len := 48) (cells' := 9) (slots' := 10349) hx hb hts hK hP hS (by decide) aw_1 q_kdM_9 (fun _ => rfl) (Nat.le_of_ble_eq_true rfl) rfl rfl (Nat.le_of_ble_eq_true rfl) (Nat.le_of_ble_eq_true rfl) rfl dX11_init_73 ?_
  clear hP hS; intro H hP hS
  replace hP : q_P D dA q_kdM (q_rho (q_LM.drop 13)) 10 z (z + 10) q_O H := hP
  refine q_putR (L := q_LM.drop 13) (L' := q_LM.drop 12) hx hb hts hown hin hK hP hS (fun k hk => hA k (Nat.lt_of_lt_of_le hk (Nat.le_of_ble_eq_true rfl))) fr_RX11_35 (Nat.le_of_ble_eq_true rfl) q_kdM_0 rfl dX11_init_75 ?_
  clear hP hS; intro H locs hP hS
  replace hP : q_P D dA q_kdM (q_rho (q_LM.drop 12)) 10 z (z + 10) q_O H := hP
  refine lv_aload_n hx hb dX11_init_78 rfl (lv_at hl 0 rfl) ?_
  refine lv_bipush (v := q_I 48) hx hb dX11_init_79 (by decide) ?_
  refine q_newa (t := 1) (len := 48) (cells' := 10) (slots' := 10397) hx hb hts hK hP hS (by decide) aw_1 q_kdM_10 (fun _ => rfl) (Nat.le_of_ble_eq_true rfl) rfl rfl (Nat.le_of_ble_eq_true rfl) (Nat.le_of_ble_eq_true rfl) rfl dX11_init_81 ?_
  clear hP hS; intro H hP hS
  replace hP : q_P D dA q_kdM (q_rho (q_LM.drop 12)) 11 z (z + 11) q_O H := hP
  refine q_putR (L := q_LM.drop 12) (L' := q_LM.drop 11) hx hb hts hown hin hK hP hS (fun k hk => hA k (Nat.lt_of_lt_of_le hk (Nat.le_of_ble_eq_true rfl))) fr_RX11_38 (Nat.le_of_ble_eq_true rfl) q_kdM_0 rfl dX11_init_83 ?_
  clear hP hS; intro H locs hP hS
  replace hP : q_P D dA q_kdM (q_rho (q_LM.drop 11)) 11 z (z + 11) q_O H := hP
  refine lv_aload_n hx hb dX11_init_86 rfl (lv_at hl 0 rfl) ?_
  refine lv_bipush (v := q_I 48) hx hb dX11_init_87 (by decide) ?_
  refine q_newa (t := 1) (len := 48) (cells' := 11) (slots' := 10445) hx hb hts hK hP hS (by decide) aw_1 q_kdM_11 (fun _ => rfl) (Nat.le_of_ble_eq_true rfl) rfl rfl (Nat.le_of_ble_eq_true rfl) (Nat.le_of_ble_eq_true rfl) rfl dX11_init_89 ?_
  clear hP hS; intro H hP hS
  replace hP : q_P D dA q_kdM (q_rho (q_LM.drop 11)) 12 z (z + 12) q_O H := hP
  refine q_putR (L := q_LM.drop 11) (L' := q_LM.drop 10) hx hb hts hown hin hK hP hS (fun k hk => hA k (Nat.lt_of_lt_of_le hk (Nat.le_of_ble_eq_true rfl))) fr_RX11_41 (Nat.le_of_ble_eq_true rfl) q_kdM_0 rfl dX11_init_91 ?_
  clear hP hS; intro H locs hP hS
  replace hP : q_P D dA q_kdM (q_rho (q_LM.drop 10)) 12 z (z + 12) q_O H := hP
  refine lv_aload_n hx hb dX11_init_94 rfl (lv_at hl 0 rfl) ?_
  refine lv_bipush (v := q_I 48) hx hb dX11_init_95 (by decide) ?_
  refine q_newa (t := 1) (len := 48) (cells' := 12) (slots' := 10493) hx hb hts hK hP hS (by decide) aw_1 q_kdM_12 (fun _ => rfl) (Nat.le_of_ble_eq_true rfl) rfl rfl (Nat.le_of_ble_eq_true rfl) (Nat.le_of_ble_eq_true rfl) rfl dX11_init_97 ?_
  clear hP hS; intro H hP hS
  replace hP : q_P D dA q_kdM (q_rho (q_LM.drop 10)) 13 z (z + 13) q_O H := hP
  refine q_putR (L := q_LM.drop 10) (L' := q_LM.drop 9) hx hb hts hown hin hK hP hS (fun k hk => hA k (Nat.lt_of_lt_of_le hk (Nat.le_of_ble_eq_true rfl))) fr_RX11_44 (Nat.le_of_ble_eq_true rfl) q_kdM_0 rfl dX11_init_99 ?_
  clear hP hS; intro H locs hP hS
  replace hP : q_P D dA q_kdM (q_rho (q_LM.drop 9)) 13 z (z + 13) q_O H := hP
  refine lv_aload_n hx hb dX11_init_102 rfl (lv_at hl 0 rfl) ?_
  refine lv_bipush (v := q_I 48) hx hb dX11_init_103 (by decide) ?_
  refine q_newa (t := 1) (len := 48) (cells' := 13) (slots' := 10541) hx hb hts hK hP hS (by decide) aw_1 q_kdM_13 (fun _ => rfl) (Nat.le_of_ble_eq_true rfl) rfl rfl (Nat.le_of_ble_eq_true rfl) (Nat.le_of_ble_eq_true rfl) rfl dX11_init_105 ?_
  clear hP hS; intro H hP hS
  replace hP : q_P D dA q_kdM (q_rho (q_LM.drop 9)) 14 z (z + 14) q_O H := hP
  refine q_putR (L := q_LM.drop 9) (L' := q_LM.drop 8) hx hb hts hown hin hK hP hS (fun k hk => hA k (Nat.lt_of_lt_of_le hk (Nat.le_of_ble_eq_true rfl))) fr_RX11_47 (Nat.le_of_ble_eq_true rfl) q_kdM_0 rfl dX11_init_107 ?_
  clear hP hS; intro H locs hP hS
  replace hP : q_P D dA q_kdM (q_rho (q_LM.drop 8)) 14 z (z + 14) q_O H := hP
  refine lv_aload_n hx hb dX11_init_110 rfl (lv_at hl 0 rfl) ?_
  refine lv_bipush (v := q_I 48) hx hb dX11_init_111 (by decide) ?_
  refine q_newa (t := 1) (len := 48) (cells' := 14) (slots' := 10589) hx hb hts hK hP hS (by decide) aw_1 q_kdM_14 (fun _ => rfl) (Nat.le_of_ble_eq_true rfl) rfl rfl (Nat.le_of_ble_eq_true rfl) (Nat.le_of_ble_eq_true rfl) rfl dX11_init_113 ?_
  clear hP hS; intro H hP hS
  replace hP : q_P D dA q_kdM (q_rho (q_LM.drop 8)) 15 z (z + 15) q_O H := hP
  refine q_putR (L := q_LM.drop 8) (L' := q_LM.drop 7) hx hb hts hown hin hK hP hS (fun k hk => hA k (Nat.lt_of_lt_of_le hk (Nat.le_of_ble_eq_true rfl))) fr_RX11_50 (Nat.le_of_ble_eq_true rfl) q_kdM_0 rfl dX11_init_115 ?_
  clear hP hS; intro H locs hP hS
  replace hP : q_P D dA q_kdM (q_rho (q_LM.drop 7)) 15 z (z + 15) q_O H := hP
  refine lv_aload_n hx hb dX11_init_118 rfl (lv_at hl 0 rfl) ?_
  refine lv_bipush (v := q_I 48) hx hb dX11_init_119 (by decide) ?_
  refine q_newa (t := 1) (len := 48) (cells' := 15) (slots' := 10637) hx hb hts hK hP hS (by decide) aw_1 q_kdM_15 (fun _ => rfl) (Nat.le_of_ble_eq_true rfl) rfl rfl (Nat.le_of_ble_eq_true rfl) (Nat.le_of_ble_eq_true rfl) rfl dX11_init_121 ?_
  clear hP hS; intro H hP hS
  replace hP : q_P D dA q_kdM (q_rho (q_LM.drop 7)) 16 z (z + 16) q_O H := hP
  refine q_putR (L := q_LM.drop 7) (L' := q_LM.drop 6) hx hb hts hown hin hK hP hS (fun k hk => hA k (Nat.lt_of_lt_of_le hk (Nat.le_of_ble_eq_true rfl))) fr_RX11_53 (Nat.le_of_ble_eq_true rfl) q_kdM_0 rfl dX11_init_123 ?_
  clear hP hS; intro H locs hP hS
  replace hP : q_P D dA q_kdM (q_rho (q_LM.drop 6)) 16 z (z + 16) q_O H := hP
  refine lv_aload_n hx hb dX11_init_126 rfl (lv_at hl 0 rfl) ?_
  refine lv_bipush (v := q_I 7) hx hb dX11_init_127 (by decide) ?_
  refine q_newa (t := 1) (len := 7) (cells' := 16) (slots' := 10644) hx hb hts hK hP hS (by decide) aw_1 q_kdM_16 (fun _ => rfl) (Nat.le_of_ble_eq_true rfl) rfl rfl (Nat.le_of_ble_eq_true rfl) (Nat.le_of_ble_eq_true rfl) rfl dX11_init_129 ?_
  clear hP hS; intro H hP hS
  replace hP : q_P D dA q_kdM (q_rho (q_LM.drop 6)) 17 z (z + 17) q_O H := hP
  refine q_putR (L := q_LM.drop 6) (L' := q_LM.drop 5) hx hb hts hown hin hK hP hS (fun k hk => hA k (Nat.lt_of_lt_of_le hk (Nat.le_of_ble_eq_true rfl))) fr_RX11_56 (Nat.le_of_ble_eq_true rfl) q_kdM_0 rfl dX11_init_131 ?_
  clear hP hS; intro H locs hP hS
  replace hP : q_P D dA q_kdM (q_rho (q_LM.drop 5)) 17 z (z + 17) q_O H := hP
  refine lv_aload_n hx hb dX11_init_134 rfl (lv_at hl 0 rfl) ?_
  refine lv_bipush (v := q_I 7) hx hb dX11_init_135 (by decide) ?_
  refine q_newa (t := 4) (len := 7) (cells' := 17) (slots' := 10651) hx hb hts hK hP hS (by decide) aw_4 q_kdM_17 (fun _ => rfl) (Nat.le_of_ble_eq_true rfl) rfl rfl (Nat.le_of_ble_eq_true rfl) (Nat.le_of_ble_eq_true rfl) rfl dX11_init_137 ?_
  clear hP hS; intro H hP hS
  replace hP : q_P D dA q_kdM (q_rho (q_LM.drop 5)) 18 z (z + 18) q_O H := hP
  refine q_putR (L := q_LM.drop 5) (L' := q_LM.drop 4) hx hb hts hown hin hK hP hS (fun k hk => hA k (Nat.lt_of_lt_of_le hk (Nat.le_of_ble_eq_true rfl))) fr_RX11_59 (Nat.le_of_ble_eq_true rfl) q_kdM_0 rfl dX11_init_139 ?_
  clear hP hS; intro H locs hP hS
  replace hP : q_P D dA q_kdM (q_rho (q_LM.drop 4)) 18 z (z + 18) q_O H := hP
  refine lv_aload_n hx hb dX11_init_142 rfl (lv_at hl 0 rfl) ?_
  refine lv_sipush (v := q_I 217) hx hb dX11_init_143 (by decide) ?_
  refine q_newa (t := 1) (len := 217) (cells' := 18) (slots' := 10868) hx hb hts hK hP hS (by decide) aw_1 q_kdM_18 (fun _ => rfl) (Nat.le_of_ble_eq_true rfl) rfl rfl (Nat.le_of_ble_eq_true rfl) (Nat.le_of_ble_eq_true rfl) rfl dX11_init_146 ?_
  clear hP hS; intro H hP hS
  replace hP : q_P D dA q_kdM (q_rho (q_LM.drop 4)) 19 z (z + 19) q_O H := hP
  refine q_putR (L := q_LM.drop 4) (L' := q_LM.drop 3) hx hb hts hown hin hK hP hS (fun k hk => hA k (Nat.lt_of_lt_of_le hk (Nat.le_of_ble_eq_true rfl))) fr_RX11_63 (Nat.le_of_ble_eq_true rfl) q_kdM_0 rfl dX11_init_148 ?_
  clear hP hS; intro H locs hP hS
  replace hP : q_P D dA q_kdM (q_rho (q_LM.drop 3)) 19 z (z + 19) q_O H := hP
  refine lv_aload_n hx hb dX11_init_151 rfl (lv_at hl 0 rfl) ?_
  refine lv_bipush (v := q_I 7) hx hb dX11_init_152 (by decide) ?_
  refine q_newa (t := 1) (len := 7) (cells' := 19) (slots' := 10875) hx hb hts hK hP hS (by decide) aw_1 q_kdM_19 (fun _ => rfl) (Nat.le_of_ble_eq_true rfl) rfl rfl (Nat.le_of_ble_eq_true rfl) (Nat.le_of_ble_eq_true rfl) rfl dX11_init_154 ?_
  clear hP hS; intro H hP hS
  replace hP : q_P D dA q_kdM (q_rho (q_LM.drop 3)) 20 z (z + 20) q_O H := hP
  refine q_putR (L := q_LM.drop 3) (L' := q_LM.drop 2) hx hb hts hown hin hK hP hS (fun k hk => hA k (Nat.lt_of_lt_of_le hk (Nat.le_of_ble_eq_true rfl))) fr_RX11_66 (Nat.le_of_ble_eq_true rfl) q_kdM_0 rfl dX11_init_156 ?_
  clear hP hS; intro H locs hP hS
  replace hP : q_P D dA q_kdM (q_rho (q_LM.drop 2)) 20 z (z + 20) q_O H := hP
  refine lv_aload_n hx hb dX11_init_159 rfl (lv_at hl 0 rfl) ?_
  refine lv_bipush (v := q_I 60) hx hb dX11_init_160 (by decide) ?_
  refine q_newa (t := 1) (len := 60) (cells' := 20) (slots' := 10935) hx hb hts hK hP hS (by decide) aw_1 q_kdM_20 (fun _ => rfl) (Nat.le_of_ble_eq_true rfl) rfl rfl (Nat.le_of_ble_eq_true rfl) (Nat.le_of_ble_eq_true rfl) rfl dX11_init_162 ?_
  clear hP hS; intro H hP hS
  replace hP : q_P D dA q_kdM (q_rho (q_LM.drop 2)) 21 z (z + 21) q_O H := hP
  refine q_putR (L := q_LM.drop 2) (L' := q_LM.drop 1) hx hb hts hown hin hK hP hS (fun k hk => hA k (Nat.lt_of_lt_of_le hk (Nat.le_of_ble_eq_true rfl))) fr_RX11_69 (Nat.le_of_ble_eq_true rfl) q_kdM_0 rfl dX11_init_164 ?_
  clear hP hS; intro H locs hP hS
  replace hP : q_P D dA q_kdM (q_rho (q_LM.drop 1)) 21 z (z + 21) q_O H := hP
  refine lv_aload_n hx hb dX11_init_167 rfl (lv_at hl 0 rfl) ?_
  refine lv_bipush (v := q_I 10) hx hb dX11_init_168 (by decide) ?_
  refine q_newa (t := 1) (len := 10) (cells' := 21) (slots' := 10945) hx hb hts hK hP hS (by decide) aw_1 q_kdM_21 (fun _ => rfl) (Nat.le_of_ble_eq_true rfl) rfl rfl (Nat.le_of_ble_eq_true rfl) (Nat.le_of_ble_eq_true rfl) rfl dX11_init_170 ?_
  clear hP hS; intro H hP hS
  replace hP : q_P D dA q_kdM (q_rho (q_LM.drop 1)) 22 z (z + 22) q_O H := hP
  refine q_putR (L := q_LM.drop 1) (L' := q_LM.drop 0) hx hb hts hown hin hK hP hS (fun k hk => hA k (Nat.lt_of_lt_of_le hk (Nat.le_of_ble_eq_true rfl))) fr_RX11_72 (Nat.le_of_ble_eq_true rfl) q_kdM_0 rfl dX11_init_172 ?_
  clear hP hS; intro H locs hP hS
  replace hP : q_P D dA q_kdM (q_rho (q_LM.drop 0)) 22 z (z + 22) q_O H := hP
  refine lv_aload_n hx hb dX11_init_175 rfl (lv_at hl 0 rfl) ?_
  refine lv_iconst (v := q_I 3) hx hb dX11_init_176 rfl ?_
  replace hP : q_P D dA q_kdM q_rhoM 22 z (z + 22) q_O H := hP
  refine q_callV hx hb hml hts hown hK hP hS (As := [.int (q_I 3)]) (rest := []) (st1 := []) cv_RX11_75 (c_M_begin l D dA (q_r 3 rfl) h) (Nat.le_of_ble_eq_true rfl) q_kdM_0 rfl ⟨rfl, rfl, Nat.le_of_ble_eq_true rfl, Nat.le_of_ble_eq_true rfl⟩ ⟨Nat.le_of_ble_eq_true rfl, Nat.le_of_ble_eq_true rfl⟩ rfl hl.1 rfl (Nat.le_of_ble_eq_true rfl) rfl (fun _ g => g) dX11_init_177 ?_
  clear hP hS; intro H locs _ hP hS _
  exact q_retv hx hb hr hlocks hP hS rfl dX11_init_180
