/-! words of the constructors, by their places (printed by wip/whole/gen/mkinit.py) -/
theorem zl_X2 : Cond.methodLink RX2 3 objectInit ∈ qWA := qWA_in (List.mem_of_getElem? (i := 159) (by decide +kernel)) rfl
theorem zw_X2 : Cond.code yX2_init cX2_init 2 none ∈ qWA ∧ Cond.initialized yX2_init.cls ∈ qWA ∧ Cond.instanceMethod yX2_init ∈ qWA := ⟨qWA_in (List.mem_of_getElem? (i := 158) (by decide +kernel)) rfl, qWA_in (List.mem_of_getElem? (i := 65) (by decide +kernel)) rfl, qWA_in (List.mem_of_getElem? (i := 157) (by decide +kernel)) rfl⟩
theorem zl_X3 : Cond.methodLink RX3 3 objectInit ∈ qWA := qWA_in (List.mem_of_getElem? (i := 250) (by decide +kernel)) rfl
theorem zw_X3 : Cond.code yX3_init cX3_init 1 none ∈ qWA ∧ Cond.initialized yX3_init.cls ∈ qWA ∧ Cond.instanceMethod yX3_init ∈ qWA := ⟨qWA_in (List.mem_of_getElem? (i := 249) (by decide +kernel)) rfl, qWA_in (List.mem_of_getElem? (i := 68) (by decide +kernel)) rfl, qWA_in (List.mem_of_getElem? (i := 248) (by decide +kernel)) rfl⟩
theorem zl_X4 : Cond.methodLink RX4 3 objectInit ∈ qWA := qWA_in (List.mem_of_getElem? (i := 178) (by decide +kernel)) rfl
theorem zw_X4 : Cond.code yX4_init cX4_init 1 none ∈ qWA ∧ Cond.initialized yX4_init.cls ∈ qWA ∧ Cond.instanceMethod yX4_init ∈ qWA := ⟨qWA_in (List.mem_of_getElem? (i := 177) (by decide +kernel)) rfl, qWA_in (List.mem_of_getElem? (i := 66) (by decide +kernel)) rfl, qWA_in (List.mem_of_getElem? (i := 176) (by decide +kernel)) rfl⟩
theorem zl_X5 : Cond.methodLink RX5 3 objectInit ∈ qWA := qWA_in (List.mem_of_getElem? (i := 105) (by decide +kernel)) rfl
theorem zw_X5 : Cond.code yX5_init cX5_init 1 none ∈ qWA ∧ Cond.initialized yX5_init.cls ∈ qWA ∧ Cond.instanceMethod yX5_init ∈ qWA := ⟨qWA_in (List.mem_of_getElem? (i := 104) (by decide +kernel)) rfl, qWA_in (List.mem_of_getElem? (i := 64) (by decide +kernel)) rfl, qWA_in (List.mem_of_getElem? (i := 103) (by decide +kernel)) rfl⟩
theorem zl_X6 : Cond.methodLink RX6 3 objectInit ∈ qWA := qWA_in (List.mem_of_getElem? (i := 220) (by decide +kernel)) rfl
theorem zw_X6 : Cond.code yX6_init cX6_init 1 none ∈ qWA ∧ Cond.initialized yX6_init.cls ∈ qWA ∧ Cond.instanceMethod yX6_init ∈ qWA := ⟨qWA_in (List.mem_of_getElem? (i := 219) (by decide +kernel)) rfl, qWA_in (List.mem_of_getElem? (i := 67) (by decide +kernel)) rfl, qWA_in (List.mem_of_getElem? (i := 218) (by decide +kernel)) rfl⟩
theorem zl_X7 : Cond.methodLink RX7 3 objectInit ∈ qWA := qWA_in (List.mem_of_getElem? (i := 97) (by decide +kernel)) rfl
theorem zw_X7 : Cond.code yX7_init cX7_init 1 none ∈ qWA ∧ Cond.initialized yX7_init.cls ∈ qWA ∧ Cond.instanceMethod yX7_init ∈ qWA := ⟨qWA_in (List.mem_of_getElem? (i := 96) (by decide +kernel)) rfl, qWA_in (List.mem_of_getElem? (i := 63) (by decide +kernel)) rfl, qWA_in (List.mem_of_getElem? (i := 95) (by decide +kernel)) rfl⟩
theorem zn_X7_9 : Cond.classLink RX7 9 RX5 ∈ qWA ∧ Cond.instantiable RX5 9 ∈ qWA ∧ Cond.initialized RX5 ∈ qWA := ⟨qWA_in (List.mem_of_getElem? (i := 100) (by decide +kernel)) rfl, qWA_in (List.mem_of_getElem? (i := 101) (by decide +kernel)) rfl, qWA_in (List.mem_of_getElem? (i := 64) (by decide +kernel)) rfl⟩
theorem zk_X7_11 : Cond.methodLinkNest RX7 11 yX5_init "TaskLeveller" ∈ qWA := qWA_in (List.mem_of_getElem? (i := 102) (by decide +kernel)) rfl
theorem zn_X7_22 : Cond.classLink RX7 22 RX2 ∈ qWA ∧ Cond.instantiable RX2 3 ∈ qWA ∧ Cond.initialized RX2 ∈ qWA := ⟨qWA_in (List.mem_of_getElem? (i := 154) (by decide +kernel)) rfl, qWA_in (List.mem_of_getElem? (i := 155) (by decide +kernel)) rfl, qWA_in (List.mem_of_getElem? (i := 65) (by decide +kernel)) rfl⟩
theorem zk_X7_24 : Cond.methodLinkNest RX7 24 yX2_init "TaskLeveller" ∈ qWA := qWA_in (List.mem_of_getElem? (i := 156) (by decide +kernel)) rfl
theorem zn_X7_29 : Cond.classLink RX7 29 RX4 ∈ qWA ∧ Cond.instantiable RX4 9 ∈ qWA ∧ Cond.initialized RX4 ∈ qWA := ⟨qWA_in (List.mem_of_getElem? (i := 173) (by decide +kernel)) rfl, qWA_in (List.mem_of_getElem? (i := 174) (by decide +kernel)) rfl, qWA_in (List.mem_of_getElem? (i := 66) (by decide +kernel)) rfl⟩
theorem zk_X7_31 : Cond.methodLinkNest RX7 31 yX4_init "TaskLeveller" ∈ qWA := qWA_in (List.mem_of_getElem? (i := 175) (by decide +kernel)) rfl
theorem zn_X7_36 : Cond.classLink RX7 36 RX6 ∈ qWA ∧ Cond.instantiable RX6 6 ∈ qWA ∧ Cond.initialized RX6 ∈ qWA := ⟨qWA_in (List.mem_of_getElem? (i := 215) (by decide +kernel)) rfl, qWA_in (List.mem_of_getElem? (i := 216) (by decide +kernel)) rfl, qWA_in (List.mem_of_getElem? (i := 67) (by decide +kernel)) rfl⟩
theorem zk_X7_38 : Cond.methodLinkNest RX7 38 yX6_init "TaskLeveller" ∈ qWA := qWA_in (List.mem_of_getElem? (i := 217) (by decide +kernel)) rfl
theorem zn_X7_43 : Cond.classLink RX7 43 RX3 ∈ qWA ∧ Cond.instantiable RX3 2 ∈ qWA ∧ Cond.initialized RX3 ∈ qWA := ⟨qWA_in (List.mem_of_getElem? (i := 245) (by decide +kernel)) rfl, qWA_in (List.mem_of_getElem? (i := 246) (by decide +kernel)) rfl, qWA_in (List.mem_of_getElem? (i := 68) (by decide +kernel)) rfl⟩
theorem zk_X7_45 : Cond.methodLinkNest RX7 45 yX3_init "TaskLeveller" ∈ qWA := qWA_in (List.mem_of_getElem? (i := 247) (by decide +kernel)) rfl
theorem zn_X2_9 : Cond.classLink RX2 9 RX5 ∈ qWA ∧ Cond.instantiable RX5 9 ∈ qWA ∧ Cond.initialized RX5 ∈ qWA := ⟨qWA_in (List.mem_of_getElem? (i := 160) (by decide +kernel)) rfl, qWA_in (List.mem_of_getElem? (i := 101) (by decide +kernel)) rfl, qWA_in (List.mem_of_getElem? (i := 64) (by decide +kernel)) rfl⟩
theorem zk_X2_17 : Cond.methodLinkNest RX2 17 yX5_init "TaskLeveller" ∈ qWA := qWA_in (List.mem_of_getElem? (i := 162) (by decide +kernel)) rfl
theorem zq_5 : Cond.classLink RX2 9 RX5 ∈ qWA := qWA_in (List.mem_of_getElem? (i := 160) (by decide +kernel)) rfl
theorem zq_1 : Cond.classLink RX6 15 RX1 ∈ qWA := qWA_in (List.mem_of_getElem? (i := 221) (by decide +kernel)) rfl
theorem zo_5 : Cond.arrayOver (.object RX5) ∈ lw_tbl := List.mem_of_getElem? (i := 161) (by decide +kernel)
theorem zo_1 : Cond.arrayOver (.object RX1) ∈ lw_tbl := List.mem_of_getElem? (i := 222) (by decide +kernel)
theorem zk_fill : Cond.methodLinkNest RX5 33 yX7_fillRow "TaskLeveller" ∈ qWA ∧ Cond.static yX7_fillRow ∈ qWA ∧ Cond.code yX7_fillRow cX7_fillRow 3 none ∈ qWA ∧ Cond.initialized yX7_fillRow.cls ∈ qWA := ⟨qWA_in (List.mem_of_getElem? (i := 106) (by decide +kernel)) rfl, qWA_in (List.mem_of_getElem? (i := 107) (by decide +kernel)) rfl, qWA_in (List.mem_of_getElem? (i := 108) (by decide +kernel)) rfl, qWA_in (List.mem_of_getElem? (i := 63) (by decide +kernel)) rfl⟩
theorem zf_X3_9 : Cond.fieldLink RX3 9 RX3 (TX3 0).2.1 (TX3 0).2.2.1 ∈ qWA := qWA_in (List.mem_of_getElem? (i := 251) (by decide +kernel)) rfl
theorem zf_X4_9 : Cond.fieldLink RX4 9 RX4 (TX4 0).2.1 (TX4 0).2.2.1 ∈ qWA := qWA_in (List.mem_of_getElem? (i := 179) (by decide +kernel)) rfl
theorem zf_X4_15 : Cond.fieldLink RX4 15 RX4 (TX4 1).2.1 (TX4 1).2.2.1 ∈ qWA := qWA_in (List.mem_of_getElem? (i := 181) (by decide +kernel)) rfl
theorem zf_X4_18 : Cond.fieldLink RX4 18 RX4 (TX4 2).2.1 (TX4 2).2.2.1 ∈ qWA := qWA_in (List.mem_of_getElem? (i := 183) (by decide +kernel)) rfl
theorem zf_X4_21 : Cond.fieldLink RX4 21 RX4 (TX4 3).2.1 (TX4 3).2.2.1 ∈ qWA := qWA_in (List.mem_of_getElem? (i := 185) (by decide +kernel)) rfl
theorem zf_X4_24 : Cond.fieldLink RX4 24 RX4 (TX4 4).2.1 (TX4 4).2.2.1 ∈ qWA := qWA_in (List.mem_of_getElem? (i := 187) (by decide +kernel)) rfl
theorem zf_X4_27 : Cond.fieldLink RX4 27 RX4 (TX4 5).2.1 (TX4 5).2.2.1 ∈ qWA := qWA_in (List.mem_of_getElem? (i := 189) (by decide +kernel)) rfl
theorem zf_X4_30 : Cond.fieldLink RX4 30 RX4 (TX4 6).2.1 (TX4 6).2.2.1 ∈ qWA := qWA_in (List.mem_of_getElem? (i := 191) (by decide +kernel)) rfl
theorem zf_X6_9 : Cond.fieldLink RX6 9 RX6 (TX6 0).2.1 (TX6 0).2.2.1 ∈ qWA := qWA_in (List.mem_of_getElem? (i := 223) (by decide +kernel)) rfl
theorem zf_X6_17 : Cond.fieldLink RX6 17 RX6 (TX6 1).2.1 (TX6 1).2.2.1 ∈ qWA := qWA_in (List.mem_of_getElem? (i := 224) (by decide +kernel)) rfl
theorem zf_X6_21 : Cond.fieldLink RX6 21 RX6 (TX6 2).2.1 (TX6 2).2.2.1 ∈ qWA := qWA_in (List.mem_of_getElem? (i := 225) (by decide +kernel)) rfl
theorem zf_X5_9 : Cond.fieldLink RX5 9 RX5 (TX5 0).2.1 (TX5 0).2.2.1 ∈ qWA := qWA_in (List.mem_of_getElem? (i := 109) (by decide +kernel)) rfl
theorem zf_X5_15 : Cond.fieldLink RX5 15 RX5 (TX5 1).2.1 (TX5 1).2.2.1 ∈ qWA := qWA_in (List.mem_of_getElem? (i := 112) (by decide +kernel)) rfl
theorem zf_X5_18 : Cond.fieldLink RX5 18 RX5 (TX5 2).2.1 (TX5 2).2.2.1 ∈ qWA := qWA_in (List.mem_of_getElem? (i := 115) (by decide +kernel)) rfl
theorem zf_X5_21 : Cond.fieldLink RX5 21 RX5 (TX5 3).2.1 (TX5 3).2.2.1 ∈ qWA := qWA_in (List.mem_of_getElem? (i := 118) (by decide +kernel)) rfl
theorem zf_X5_24 : Cond.fieldLink RX5 24 RX5 (TX5 4).2.1 (TX5 4).2.2.1 ∈ qWA := qWA_in (List.mem_of_getElem? (i := 121) (by decide +kernel)) rfl
theorem zf_X5_27 : Cond.fieldLink RX5 27 RX5 (TX5 5).2.1 (TX5 5).2.2.1 ∈ qWA := qWA_in (List.mem_of_getElem? (i := 124) (by decide +kernel)) rfl
theorem zf_X5_30 : Cond.fieldLink RX5 30 RX5 (TX5 6).2.1 (TX5 6).2.2.1 ∈ qWA := qWA_in (List.mem_of_getElem? (i := 126) (by decide +kernel)) rfl
