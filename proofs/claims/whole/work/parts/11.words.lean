/-! words of links, methods and fields, by their places -/
theorem cl_X2 : qCl 0 RX2 TX2 3 := ⟨rfl, fun w h => List.mem_filter.mpr ⟨(by decide +kernel : ∀ w ∈ u_ws RX2 TX2 3, w ∈ lw_tbl) w h, (by decide +kernel : ∀ w ∈ u_ws RX2 TX2 3, qok w = true) w h⟩, nmX2, tyX2, tyX2_ok⟩
theorem cl_X3 : qCl 1 RX3 TX3 2 := ⟨rfl, fun w h => List.mem_filter.mpr ⟨(by decide +kernel : ∀ w ∈ u_ws RX3 TX3 2, w ∈ lw_tbl) w h, (by decide +kernel : ∀ w ∈ u_ws RX3 TX3 2, qok w = true) w h⟩, nmX3, tyX3, tyX3_ok⟩
theorem cl_X4 : qCl 2 RX4 TX4 9 := ⟨rfl, fun w h => List.mem_filter.mpr ⟨(by decide +kernel : ∀ w ∈ u_ws RX4 TX4 9, w ∈ lw_tbl) w h, (by decide +kernel : ∀ w ∈ u_ws RX4 TX4 9, qok w = true) w h⟩, nmX4, tyX4, tyX4_ok⟩
theorem cl_X5 : qCl 3 RX5 TX5 9 := ⟨rfl, fun w h => List.mem_filter.mpr ⟨(by decide +kernel : ∀ w ∈ u_ws RX5 TX5 9, w ∈ lw_tbl) w h, (by decide +kernel : ∀ w ∈ u_ws RX5 TX5 9, qok w = true) w h⟩, nmX5, tyX5, tyX5_ok⟩
theorem cl_X6 : qCl 4 RX6 TX6 6 := ⟨rfl, fun w h => List.mem_filter.mpr ⟨(by decide +kernel : ∀ w ∈ u_ws RX6 TX6 6, w ∈ lw_tbl) w h, (by decide +kernel : ∀ w ∈ u_ws RX6 TX6 6, qok w = true) w h⟩, nmX6, tyX6, tyX6_ok⟩
theorem cl_X7 : qCl 5 RX7 TX7 13 := ⟨rfl, fun w h => List.mem_filter.mpr ⟨(by decide +kernel : ∀ w ∈ u_ws RX7 TX7 13, w ∈ lw_tbl) w h, (by decide +kernel : ∀ w ∈ u_ws RX7 TX7 13, qok w = true) w h⟩, nmX7, tyX7, tyX7_ok⟩
theorem cl_X8 : qCl 6 RX8 TX8 23 := ⟨rfl, fun w h => List.mem_filter.mpr ⟨(by decide +kernel : ∀ w ∈ u_ws RX8 TX8 23, w ∈ lw_tbl) w h, (by decide +kernel : ∀ w ∈ u_ws RX8 TX8 23, qok w = true) w h⟩, nmX8, tyX8, tyX8_ok⟩
theorem mw_X2_keep : qMw yX2_keep cX2_keep 3 1 none := ⟨qWA_in (List.mem_of_getElem? (i := 352) (by decide +kernel)) rfl, qWA_in (List.mem_of_getElem? (i := 109) (by decide +kernel)) rfl, ⟨by decide +kernel, by decide +kernel⟩, by decide +kernel⟩
theorem in_X2_keep : Cond.instanceMethod yX2_keep ∈ qWA := qWA_in (List.mem_of_getElem? (i := 351) (by decide +kernel)) rfl
theorem se_X2_keep : Cond.selects RX2 yX2_keep yX2_keep ∈ qWA := qWA_in (List.mem_of_getElem? (i := 1) (by decide +kernel)) rfl
theorem mw_X2_takeInto : qMw yX2_takeInto cX2_takeInto 3 1 none := ⟨qWA_in (List.mem_of_getElem? (i := 1285) (by decide +kernel)) rfl, qWA_in (List.mem_of_getElem? (i := 109) (by decide +kernel)) rfl, ⟨by decide +kernel, by decide +kernel⟩, by decide +kernel⟩
theorem in_X2_takeInto : Cond.instanceMethod yX2_takeInto ∈ qWA := qWA_in (List.mem_of_getElem? (i := 1284) (by decide +kernel)) rfl
theorem se_X2_takeInto : Cond.selects RX2 yX2_takeInto yX2_takeInto ∈ qWA := qWA_in (List.mem_of_getElem? (i := 63) (by decide +kernel)) rfl
theorem mw_X2_clear : qMw yX2_clear cX2_clear 1 0 none := ⟨qWA_in (List.mem_of_getElem? (i := 1298) (by decide +kernel)) rfl, qWA_in (List.mem_of_getElem? (i := 109) (by decide +kernel)) rfl, ⟨by decide +kernel, by decide +kernel⟩, by decide +kernel⟩
theorem in_X2_clear : Cond.instanceMethod yX2_clear ∈ qWA := qWA_in (List.mem_of_getElem? (i := 1297) (by decide +kernel)) rfl
theorem se_X2_clear : Cond.selects RX2 yX2_clear yX2_clear ∈ qWA := qWA_in (List.mem_of_getElem? (i := 64) (by decide +kernel)) rfl
theorem mw_X2_stateAt : qMw yX2_stateAt cX2_stateAt 2 1 (some (.object "TaskLeveller$Project")) := ⟨qWA_in (List.mem_of_getElem? (i := 356) (by decide +kernel)) rfl, qWA_in (List.mem_of_getElem? (i := 109) (by decide +kernel)) rfl, ⟨by decide +kernel, by decide +kernel⟩, by decide +kernel⟩
theorem in_X2_stateAt : Cond.instanceMethod yX2_stateAt ∈ qWA := qWA_in (List.mem_of_getElem? (i := 355) (by decide +kernel)) rfl
theorem se_X2_stateAt : Cond.selects RX2 yX2_stateAt yX2_stateAt ∈ qWA := qWA_in (List.mem_of_getElem? (i := 2) (by decide +kernel)) rfl
theorem mw_X3_clear : qMw yX3_clear cX3_clear 1 0 none := ⟨qWA_in (List.mem_of_getElem? (i := 1087) (by decide +kernel)) rfl, qWA_in (List.mem_of_getElem? (i := 112) (by decide +kernel)) rfl, ⟨by decide +kernel, by decide +kernel⟩, by decide +kernel⟩
theorem in_X3_clear : Cond.instanceMethod yX3_clear ∈ qWA := qWA_in (List.mem_of_getElem? (i := 1086) (by decide +kernel)) rfl
theorem se_X3_clear : Cond.selects RX3 yX3_clear yX3_clear ∈ qWA := qWA_in (List.mem_of_getElem? (i := 47) (by decide +kernel)) rfl
theorem mw_X3_write : qMw yX3_write cX3_write 2 1 none := ⟨qWA_in (List.mem_of_getElem? (i := 1095) (by decide +kernel)) rfl, qWA_in (List.mem_of_getElem? (i := 112) (by decide +kernel)) rfl, ⟨by decide +kernel, by decide +kernel⟩, by decide +kernel⟩
theorem in_X3_write : Cond.instanceMethod yX3_write ∈ qWA := qWA_in (List.mem_of_getElem? (i := 1094) (by decide +kernel)) rfl
theorem se_X3_write : Cond.selects RX3 yX3_write yX3_write ∈ qWA := qWA_in (List.mem_of_getElem? (i := 49) (by decide +kernel)) rfl
theorem mw_X3_writeNumber : qMw yX3_writeNumber cX3_writeNumber 2 1 none := ⟨qWA_in (List.mem_of_getElem? (i := 1091) (by decide +kernel)) rfl, qWA_in (List.mem_of_getElem? (i := 112) (by decide +kernel)) rfl, ⟨by decide +kernel, by decide +kernel⟩, by decide +kernel⟩
theorem in_X3_writeNumber : Cond.instanceMethod yX3_writeNumber ∈ qWA := qWA_in (List.mem_of_getElem? (i := 1090) (by decide +kernel)) rfl
theorem se_X3_writeNumber : Cond.selects RX3 yX3_writeNumber yX3_writeNumber ∈ qWA := qWA_in (List.mem_of_getElem? (i := 48) (by decide +kernel)) rfl
theorem mw_X4_make : qMw yX4_make cX4_make 2 1 none := ⟨qWA_in (List.mem_of_getElem? (i := 374) (by decide +kernel)) rfl, qWA_in (List.mem_of_getElem? (i := 110) (by decide +kernel)) rfl, ⟨by decide +kernel, by decide +kernel⟩, by decide +kernel⟩
theorem in_X4_make : Cond.instanceMethod yX4_make ∈ qWA := qWA_in (List.mem_of_getElem? (i := 373) (by decide +kernel)) rfl
theorem se_X4_make : Cond.selects RX4 yX4_make yX4_make ∈ qWA := qWA_in (List.mem_of_getElem? (i := 5) (by decide +kernel)) rfl
theorem mw_X4_slackOf : qMw yX4_slackOf cX4_slackOf 2 1 (some .int) := ⟨qWA_in (List.mem_of_getElem? (i := 469) (by decide +kernel)) rfl, qWA_in (List.mem_of_getElem? (i := 110) (by decide +kernel)) rfl, ⟨by decide +kernel, by decide +kernel⟩, by decide +kernel⟩
theorem in_X4_slackOf : Cond.instanceMethod yX4_slackOf ∈ qWA := qWA_in (List.mem_of_getElem? (i := 468) (by decide +kernel)) rfl
theorem se_X4_slackOf : Cond.selects RX4 yX4_slackOf yX4_slackOf ∈ qWA := qWA_in (List.mem_of_getElem? (i := 20) (by decide +kernel)) rfl
theorem mw_X4_usedOn : qMw yX4_usedOn cX4_usedOn 3 2 (some .int) := ⟨qWA_in (List.mem_of_getElem? (i := 514) (by decide +kernel)) rfl, qWA_in (List.mem_of_getElem? (i := 110) (by decide +kernel)) rfl, ⟨by decide +kernel, by decide +kernel⟩, by decide +kernel⟩
theorem in_X4_usedOn : Cond.instanceMethod yX4_usedOn ∈ qWA := qWA_in (List.mem_of_getElem? (i := 513) (by decide +kernel)) rfl
theorem se_X4_usedOn : Cond.selects RX4 yX4_usedOn yX4_usedOn ∈ qWA := qWA_in (List.mem_of_getElem? (i := 27) (by decide +kernel)) rfl
theorem mw_X4_workOnAllDays : qMw yX4_workOnAllDays cX4_workOnAllDays 4 1 (some .int) := ⟨qWA_in (List.mem_of_getElem? (i := 510) (by decide +kernel)) rfl, qWA_in (List.mem_of_getElem? (i := 110) (by decide +kernel)) rfl, ⟨by decide +kernel, by decide +kernel⟩, by decide +kernel⟩
theorem in_X4_workOnAllDays : Cond.instanceMethod yX4_workOnAllDays ∈ qWA := qWA_in (List.mem_of_getElem? (i := 509) (by decide +kernel)) rfl
theorem se_X4_workOnAllDays : Cond.selects RX4 yX4_workOnAllDays yX4_workOnAllDays ∈ qWA := qWA_in (List.mem_of_getElem? (i := 26) (by decide +kernel)) rfl
theorem mw_X4_findOrder : qMw yX4_findOrder cX4_findOrder 5 1 none := ⟨qWA_in (List.mem_of_getElem? (i := 378) (by decide +kernel)) rfl, qWA_in (List.mem_of_getElem? (i := 110) (by decide +kernel)) rfl, ⟨by decide +kernel, by decide +kernel⟩, by decide +kernel⟩
theorem in_X4_findOrder : Cond.instanceMethod yX4_findOrder ∈ qWA := qWA_in (List.mem_of_getElem? (i := 377) (by decide +kernel)) rfl
theorem se_X4_findOrder : Cond.selects RX4 yX4_findOrder yX4_findOrder ∈ qWA := qWA_in (List.mem_of_getElem? (i := 6) (by decide +kernel)) rfl
theorem mw_X4_findClosure : qMw yX4_findClosure cX4_findClosure 4 1 none := ⟨qWA_in (List.mem_of_getElem? (i := 395) (by decide +kernel)) rfl, qWA_in (List.mem_of_getElem? (i := 110) (by decide +kernel)) rfl, ⟨by decide +kernel, by decide +kernel⟩, by decide +kernel⟩
theorem in_X4_findClosure : Cond.instanceMethod yX4_findClosure ∈ qWA := qWA_in (List.mem_of_getElem? (i := 394) (by decide +kernel)) rfl
theorem se_X4_findClosure : Cond.selects RX4 yX4_findClosure yX4_findClosure ∈ qWA := qWA_in (List.mem_of_getElem? (i := 8) (by decide +kernel)) rfl
theorem mw_X4_findEarliest : qMw yX4_findEarliest cX4_findEarliest 4 1 none := ⟨qWA_in (List.mem_of_getElem? (i := 402) (by decide +kernel)) rfl, qWA_in (List.mem_of_getElem? (i := 110) (by decide +kernel)) rfl, ⟨by decide +kernel, by decide +kernel⟩, by decide +kernel⟩
theorem in_X4_findEarliest : Cond.instanceMethod yX4_findEarliest ∈ qWA := qWA_in (List.mem_of_getElem? (i := 401) (by decide +kernel)) rfl
theorem se_X4_findEarliest : Cond.selects RX4 yX4_findEarliest yX4_findEarliest ∈ qWA := qWA_in (List.mem_of_getElem? (i := 9) (by decide +kernel)) rfl
theorem mw_X4_earliestOf : qMw yX4_earliestOf cX4_earliestOf 8 4 (some .int) := ⟨qWA_in (List.mem_of_getElem? (i := 406) (by decide +kernel)) rfl, qWA_in (List.mem_of_getElem? (i := 110) (by decide +kernel)) rfl, ⟨by decide +kernel, by decide +kernel⟩, by decide +kernel⟩
theorem st_X4_earliestOf : Cond.static yX4_earliestOf ∈ qWA := qWA_in (List.mem_of_getElem? (i := 405) (by decide +kernel)) rfl
theorem mw_X4_findImproved : qMw yX4_findImproved cX4_findImproved 4 1 none := ⟨qWA_in (List.mem_of_getElem? (i := 413) (by decide +kernel)) rfl, qWA_in (List.mem_of_getElem? (i := 110) (by decide +kernel)) rfl, ⟨by decide +kernel, by decide +kernel⟩, by decide +kernel⟩
theorem in_X4_findImproved : Cond.instanceMethod yX4_findImproved ∈ qWA := qWA_in (List.mem_of_getElem? (i := 412) (by decide +kernel)) rfl
theorem se_X4_findImproved : Cond.selects RX4 yX4_findImproved yX4_findImproved ∈ qWA := qWA_in (List.mem_of_getElem? (i := 10) (by decide +kernel)) rfl
theorem mw_X4_improve : qMw yX4_improve cX4_improve 5 1 (some .boolean) := ⟨qWA_in (List.mem_of_getElem? (i := 417) (by decide +kernel)) rfl, qWA_in (List.mem_of_getElem? (i := 110) (by decide +kernel)) rfl, ⟨by decide +kernel, by decide +kernel⟩, by decide +kernel⟩
theorem in_X4_improve : Cond.instanceMethod yX4_improve ∈ qWA := qWA_in (List.mem_of_getElem? (i := 416) (by decide +kernel)) rfl
theorem se_X4_improve : Cond.selects RX4 yX4_improve yX4_improve ∈ qWA := qWA_in (List.mem_of_getElem? (i := 11) (by decide +kernel)) rfl
theorem mw_X4_soonestStart : qMw yX4_soonestStart cX4_soonestStart 6 3 (some .int) := ⟨qWA_in (List.mem_of_getElem? (i := 420) (by decide +kernel)) rfl, qWA_in (List.mem_of_getElem? (i := 110) (by decide +kernel)) rfl, ⟨by decide +kernel, by decide +kernel⟩, by decide +kernel⟩
theorem st_X4_soonestStart : Cond.static yX4_soonestStart ∈ qWA := qWA_in (List.mem_of_getElem? (i := 419) (by decide +kernel)) rfl
theorem mw_X4_findLatest : qMw yX4_findLatest cX4_findLatest 6 1 none := ⟨qWA_in (List.mem_of_getElem? (i := 424) (by decide +kernel)) rfl, qWA_in (List.mem_of_getElem? (i := 110) (by decide +kernel)) rfl, ⟨by decide +kernel, by decide +kernel⟩, by decide +kernel⟩
theorem in_X4_findLatest : Cond.instanceMethod yX4_findLatest ∈ qWA := qWA_in (List.mem_of_getElem? (i := 423) (by decide +kernel)) rfl
theorem se_X4_findLatest : Cond.selects RX4 yX4_findLatest yX4_findLatest ∈ qWA := qWA_in (List.mem_of_getElem? (i := 12) (by decide +kernel)) rfl
theorem mw_X4_findLevelled : qMw yX4_findLevelled cX4_findLevelled 5 1 none := ⟨qWA_in (List.mem_of_getElem? (i := 433) (by decide +kernel)) rfl, qWA_in (List.mem_of_getElem? (i := 110) (by decide +kernel)) rfl, ⟨by decide +kernel, by decide +kernel⟩, by decide +kernel⟩
theorem in_X4_findLevelled : Cond.instanceMethod yX4_findLevelled ∈ qWA := qWA_in (List.mem_of_getElem? (i := 432) (by decide +kernel)) rfl
theorem se_X4_findLevelled : Cond.selects RX4 yX4_findLevelled yX4_findLevelled ∈ qWA := qWA_in (List.mem_of_getElem? (i := 14) (by decide +kernel)) rfl
theorem mw_X4_mostUrgent : qMw yX4_mostUrgent cX4_mostUrgent 6 2 (some .int) := ⟨qWA_in (List.mem_of_getElem? (i := 437) (by decide +kernel)) rfl, qWA_in (List.mem_of_getElem? (i := 110) (by decide +kernel)) rfl, ⟨by decide +kernel, by decide +kernel⟩, by decide +kernel⟩
theorem in_X4_mostUrgent : Cond.instanceMethod yX4_mostUrgent ∈ qWA := qWA_in (List.mem_of_getElem? (i := 436) (by decide +kernel)) rfl
theorem se_X4_mostUrgent : Cond.selects RX4 yX4_mostUrgent yX4_mostUrgent ∈ qWA := qWA_in (List.mem_of_getElem? (i := 15) (by decide +kernel)) rfl
theorem mw_X4_lowestFit : qMw yX4_lowestFit cX4_lowestFit 4 2 (some .int) := ⟨qWA_in (List.mem_of_getElem? (i := 441) (by decide +kernel)) rfl, qWA_in (List.mem_of_getElem? (i := 110) (by decide +kernel)) rfl, ⟨by decide +kernel, by decide +kernel⟩, by decide +kernel⟩
theorem in_X4_lowestFit : Cond.instanceMethod yX4_lowestFit ∈ qWA := qWA_in (List.mem_of_getElem? (i := 440) (by decide +kernel)) rfl
theorem se_X4_lowestFit : Cond.selects RX4 yX4_lowestFit yX4_lowestFit ∈ qWA := qWA_in (List.mem_of_getElem? (i := 16) (by decide +kernel)) rfl
theorem mw_X4_fits : qMw yX4_fits cX4_fits 9 3 (some .boolean) := ⟨qWA_in (List.mem_of_getElem? (i := 445) (by decide +kernel)) rfl, qWA_in (List.mem_of_getElem? (i := 110) (by decide +kernel)) rfl, ⟨by decide +kernel, by decide +kernel⟩, by decide +kernel⟩
theorem in_X4_fits : Cond.instanceMethod yX4_fits ∈ qWA := qWA_in (List.mem_of_getElem? (i := 444) (by decide +kernel)) rfl
theorem se_X4_fits : Cond.selects RX4 yX4_fits yX4_fits ∈ qWA := qWA_in (List.mem_of_getElem? (i := 17) (by decide +kernel)) rfl
theorem mw_X4_place : qMw yX4_place cX4_place 7 3 none := ⟨qWA_in (List.mem_of_getElem? (i := 449) (by decide +kernel)) rfl, qWA_in (List.mem_of_getElem? (i := 110) (by decide +kernel)) rfl, ⟨by decide +kernel, by decide +kernel⟩, by decide +kernel⟩
theorem in_X4_place : Cond.instanceMethod yX4_place ∈ qWA := qWA_in (List.mem_of_getElem? (i := 448) (by decide +kernel)) rfl
theorem se_X4_place : Cond.selects RX4 yX4_place yX4_place ∈ qWA := qWA_in (List.mem_of_getElem? (i := 18) (by decide +kernel)) rfl
theorem mw_X5_copyFrom : qMw yX5_copyFrom cX5_copyFrom 2 1 none := ⟨qWA_in (List.mem_of_getElem? (i := 360) (by decide +kernel)) rfl, qWA_in (List.mem_of_getElem? (i := 108) (by decide +kernel)) rfl, ⟨by decide +kernel, by decide +kernel⟩, by decide +kernel⟩
theorem in_X5_copyFrom : Cond.instanceMethod yX5_copyFrom ∈ qWA := qWA_in (List.mem_of_getElem? (i := 359) (by decide +kernel)) rfl
theorem se_X5_copyFrom : Cond.selects RX5 yX5_copyFrom yX5_copyFrom ∈ qWA := qWA_in (List.mem_of_getElem? (i := 3) (by decide +kernel)) rfl
theorem mw_X5_faultOfTask : qMw yX5_faultOfTask cX5_faultOfTask 2 1 (some .char) := ⟨qWA_in (List.mem_of_getElem? (i := 695) (by decide +kernel)) rfl, qWA_in (List.mem_of_getElem? (i := 108) (by decide +kernel)) rfl, ⟨by decide +kernel, by decide +kernel⟩, by decide +kernel⟩
theorem in_X5_faultOfTask : Cond.instanceMethod yX5_faultOfTask ∈ qWA := qWA_in (List.mem_of_getElem? (i := 694) (by decide +kernel)) rfl
theorem se_X5_faultOfTask : Cond.selects RX5 yX5_faultOfTask yX5_faultOfTask ∈ qWA := qWA_in (List.mem_of_getElem? (i := 31) (by decide +kernel)) rfl
theorem mw_X5_faultOfPair : qMw yX5_faultOfPair cX5_faultOfPair 3 2 (some .char) := ⟨qWA_in (List.mem_of_getElem? (i := 719) (by decide +kernel)) rfl, qWA_in (List.mem_of_getElem? (i := 108) (by decide +kernel)) rfl, ⟨by decide +kernel, by decide +kernel⟩, by decide +kernel⟩
theorem in_X5_faultOfPair : Cond.instanceMethod yX5_faultOfPair ∈ qWA := qWA_in (List.mem_of_getElem? (i := 718) (by decide +kernel)) rfl
theorem se_X5_faultOfPair : Cond.selects RX5 yX5_faultOfPair yX5_faultOfPair ∈ qWA := qWA_in (List.mem_of_getElem? (i := 34) (by decide +kernel)) rfl
theorem mw_X5_faultOfAdding : qMw yX5_faultOfAdding cX5_faultOfAdding 6 4 (some .char) := ⟨qWA_in (List.mem_of_getElem? (i := 532) (by decide +kernel)) rfl, qWA_in (List.mem_of_getElem? (i := 108) (by decide +kernel)) rfl, ⟨by decide +kernel, by decide +kernel⟩, by decide +kernel⟩
theorem in_X5_faultOfAdding : Cond.instanceMethod yX5_faultOfAdding ∈ qWA := qWA_in (List.mem_of_getElem? (i := 531) (by decide +kernel)) rfl
theorem se_X5_faultOfAdding : Cond.selects RX5 yX5_faultOfAdding yX5_faultOfAdding ∈ qWA := qWA_in (List.mem_of_getElem? (i := 28) (by decide +kernel)) rfl
theorem mw_X5_faultOfLinking : qMw yX5_faultOfLinking cX5_faultOfLinking 3 2 (some .char) := ⟨qWA_in (List.mem_of_getElem? (i := 715) (by decide +kernel)) rfl, qWA_in (List.mem_of_getElem? (i := 108) (by decide +kernel)) rfl, ⟨by decide +kernel, by decide +kernel⟩, by decide +kernel⟩
theorem in_X5_faultOfLinking : Cond.instanceMethod yX5_faultOfLinking ∈ qWA := qWA_in (List.mem_of_getElem? (i := 714) (by decide +kernel)) rfl
theorem se_X5_faultOfLinking : Cond.selects RX5 yX5_faultOfLinking yX5_faultOfLinking ∈ qWA := qWA_in (List.mem_of_getElem? (i := 33) (by decide +kernel)) rfl
theorem mw_X5_faultOfDuration : qMw yX5_faultOfDuration cX5_faultOfDuration 3 2 (some .char) := ⟨qWA_in (List.mem_of_getElem? (i := 749) (by decide +kernel)) rfl, qWA_in (List.mem_of_getElem? (i := 108) (by decide +kernel)) rfl, ⟨by decide +kernel, by decide +kernel⟩, by decide +kernel⟩
theorem in_X5_faultOfDuration : Cond.instanceMethod yX5_faultOfDuration ∈ qWA := qWA_in (List.mem_of_getElem? (i := 748) (by decide +kernel)) rfl
theorem se_X5_faultOfDuration : Cond.selects RX5 yX5_faultOfDuration yX5_faultOfDuration ∈ qWA := qWA_in (List.mem_of_getElem? (i := 37) (by decide +kernel)) rfl
theorem mw_X5_faultOfRelease : qMw yX5_faultOfRelease cX5_faultOfRelease 3 2 (some .char) := ⟨qWA_in (List.mem_of_getElem? (i := 761) (by decide +kernel)) rfl, qWA_in (List.mem_of_getElem? (i := 108) (by decide +kernel)) rfl, ⟨by decide +kernel, by decide +kernel⟩, by decide +kernel⟩
theorem in_X5_faultOfRelease : Cond.instanceMethod yX5_faultOfRelease ∈ qWA := qWA_in (List.mem_of_getElem? (i := 760) (by decide +kernel)) rfl
theorem se_X5_faultOfRelease : Cond.selects RX5 yX5_faultOfRelease yX5_faultOfRelease ∈ qWA := qWA_in (List.mem_of_getElem? (i := 38) (by decide +kernel)) rfl
theorem mw_X5_faultOfLimit : qMw yX5_faultOfLimit cX5_faultOfLimit 4 2 (some .char) := ⟨qWA_in (List.mem_of_getElem? (i := 772) (by decide +kernel)) rfl, qWA_in (List.mem_of_getElem? (i := 108) (by decide +kernel)) rfl, ⟨by decide +kernel, by decide +kernel⟩, by decide +kernel⟩
theorem in_X5_faultOfLimit : Cond.instanceMethod yX5_faultOfLimit ∈ qWA := qWA_in (List.mem_of_getElem? (i := 771) (by decide +kernel)) rfl
theorem se_X5_faultOfLimit : Cond.selects RX5 yX5_faultOfLimit yX5_faultOfLimit ∈ qWA := qWA_in (List.mem_of_getElem? (i := 39) (by decide +kernel)) rfl
theorem mw_X5_append : qMw yX5_append cX5_append 6 4 (some .int) := ⟨qWA_in (List.mem_of_getElem? (i := 662) (by decide +kernel)) rfl, qWA_in (List.mem_of_getElem? (i := 108) (by decide +kernel)) rfl, ⟨by decide +kernel, by decide +kernel⟩, by decide +kernel⟩
theorem in_X5_append : Cond.instanceMethod yX5_append ∈ qWA := qWA_in (List.mem_of_getElem? (i := 661) (by decide +kernel)) rfl
theorem se_X5_append : Cond.selects RX5 yX5_append yX5_append ∈ qWA := qWA_in (List.mem_of_getElem? (i := 30) (by decide +kernel)) rfl
theorem mw_X5_drop : qMw yX5_drop cX5_drop 5 1 none := ⟨qWA_in (List.mem_of_getElem? (i := 699) (by decide +kernel)) rfl, qWA_in (List.mem_of_getElem? (i := 108) (by decide +kernel)) rfl, ⟨by decide +kernel, by decide +kernel⟩, by decide +kernel⟩
theorem in_X5_drop : Cond.instanceMethod yX5_drop ∈ qWA := qWA_in (List.mem_of_getElem? (i := 698) (by decide +kernel)) rfl
theorem se_X5_drop : Cond.selects RX5 yX5_drop yX5_drop ∈ qWA := qWA_in (List.mem_of_getElem? (i := 32) (by decide +kernel)) rfl
theorem mw_X5_link : qMw yX5_link cX5_link 3 2 none := ⟨qWA_in (List.mem_of_getElem? (i := 726) (by decide +kernel)) rfl, qWA_in (List.mem_of_getElem? (i := 108) (by decide +kernel)) rfl, ⟨by decide +kernel, by decide +kernel⟩, by decide +kernel⟩
theorem in_X5_link : Cond.instanceMethod yX5_link ∈ qWA := qWA_in (List.mem_of_getElem? (i := 725) (by decide +kernel)) rfl
theorem se_X5_link : Cond.selects RX5 yX5_link yX5_link ∈ qWA := qWA_in (List.mem_of_getElem? (i := 35) (by decide +kernel)) rfl
theorem mw_X5_unlink : qMw yX5_unlink cX5_unlink 3 2 none := ⟨qWA_in (List.mem_of_getElem? (i := 738) (by decide +kernel)) rfl, qWA_in (List.mem_of_getElem? (i := 108) (by decide +kernel)) rfl, ⟨by decide +kernel, by decide +kernel⟩, by decide +kernel⟩
theorem in_X5_unlink : Cond.instanceMethod yX5_unlink ∈ qWA := qWA_in (List.mem_of_getElem? (i := 737) (by decide +kernel)) rfl
theorem se_X5_unlink : Cond.selects RX5 yX5_unlink yX5_unlink ∈ qWA := qWA_in (List.mem_of_getElem? (i := 36) (by decide +kernel)) rfl
theorem mw_X5_isLinked : qMw yX5_isLinked cX5_isLinked 3 2 (some .boolean) := ⟨qWA_in (List.mem_of_getElem? (i := 428) (by decide +kernel)) rfl, qWA_in (List.mem_of_getElem? (i := 108) (by decide +kernel)) rfl, ⟨by decide +kernel, by decide +kernel⟩, by decide +kernel⟩
theorem in_X5_isLinked : Cond.instanceMethod yX5_isLinked ∈ qWA := qWA_in (List.mem_of_getElem? (i := 427) (by decide +kernel)) rfl
theorem se_X5_isLinked : Cond.selects RX5 yX5_isLinked yX5_isLinked ∈ qWA := qWA_in (List.mem_of_getElem? (i := 13) (by decide +kernel)) rfl
theorem mw_X5_reaches : qMw yX5_reaches cX5_reaches 3 2 (some .boolean) := ⟨qWA_in (List.mem_of_getElem? (i := 495) (by decide +kernel)) rfl, qWA_in (List.mem_of_getElem? (i := 108) (by decide +kernel)) rfl, ⟨by decide +kernel, by decide +kernel⟩, by decide +kernel⟩
theorem in_X5_reaches : Cond.instanceMethod yX5_reaches ∈ qWA := qWA_in (List.mem_of_getElem? (i := 494) (by decide +kernel)) rfl
theorem se_X5_reaches : Cond.selects RX5 yX5_reaches yX5_reaches ∈ qWA := qWA_in (List.mem_of_getElem? (i := 23) (by decide +kernel)) rfl
theorem mw_X5_search : qMw yX5_search cX5_search 7 4 (some .int) := ⟨qWA_in (List.mem_of_getElem? (i := 498) (by decide +kernel)) rfl, qWA_in (List.mem_of_getElem? (i := 108) (by decide +kernel)) rfl, ⟨by decide +kernel, by decide +kernel⟩, by decide +kernel⟩
theorem st_X5_search : Cond.static yX5_search ∈ qWA := qWA_in (List.mem_of_getElem? (i := 497) (by decide +kernel)) rfl
theorem mw_X5_isReady : qMw yX5_isReady cX5_isReady 3 2 (some .boolean) := ⟨qWA_in (List.mem_of_getElem? (i := 382) (by decide +kernel)) rfl, qWA_in (List.mem_of_getElem? (i := 108) (by decide +kernel)) rfl, ⟨by decide +kernel, by decide +kernel⟩, by decide +kernel⟩
theorem in_X5_isReady : Cond.instanceMethod yX5_isReady ∈ qWA := qWA_in (List.mem_of_getElem? (i := 381) (by decide +kernel)) rfl
theorem se_X5_isReady : Cond.selects RX5 yX5_isReady yX5_isReady ∈ qWA := qWA_in (List.mem_of_getElem? (i := 7) (by decide +kernel)) rfl
theorem mw_X5_takeStarts : qMw yX5_takeStarts cX5_takeStarts 2 1 none := ⟨qWA_in (List.mem_of_getElem? (i := 453) (by decide +kernel)) rfl, qWA_in (List.mem_of_getElem? (i := 108) (by decide +kernel)) rfl, ⟨by decide +kernel, by decide +kernel⟩, by decide +kernel⟩
theorem in_X5_takeStarts : Cond.instanceMethod yX5_takeStarts ∈ qWA := qWA_in (List.mem_of_getElem? (i := 452) (by decide +kernel)) rfl
theorem se_X5_takeStarts : Cond.selects RX5 yX5_takeStarts yX5_takeStarts ∈ qWA := qWA_in (List.mem_of_getElem? (i := 19) (by decide +kernel)) rfl
theorem mw_X5_hasStart : qMw yX5_hasStart cX5_hasStart 2 1 (some .boolean) := ⟨qWA_in (List.mem_of_getElem? (i := 997) (by decide +kernel)) rfl, qWA_in (List.mem_of_getElem? (i := 108) (by decide +kernel)) rfl, ⟨by decide +kernel, by decide +kernel⟩, by decide +kernel⟩
theorem in_X5_hasStart : Cond.instanceMethod yX5_hasStart ∈ qWA := qWA_in (List.mem_of_getElem? (i := 996) (by decide +kernel)) rfl
theorem se_X5_hasStart : Cond.selects RX5 yX5_hasStart yX5_hasStart ∈ qWA := qWA_in (List.mem_of_getElem? (i := 43) (by decide +kernel)) rfl
theorem mw_X5_workOf : qMw yX5_workOf cX5_workOf 4 1 (some .int) := ⟨qWA_in (List.mem_of_getElem? (i := 506) (by decide +kernel)) rfl, qWA_in (List.mem_of_getElem? (i := 108) (by decide +kernel)) rfl, ⟨by decide +kernel, by decide +kernel⟩, by decide +kernel⟩
theorem in_X5_workOf : Cond.instanceMethod yX5_workOf ∈ qWA := qWA_in (List.mem_of_getElem? (i := 505) (by decide +kernel)) rfl
theorem se_X5_workOf : Cond.selects RX5 yX5_workOf yX5_workOf ∈ qWA := qWA_in (List.mem_of_getElem? (i := 25) (by decide +kernel)) rfl
theorem mw_X6_append : qMw yX6_append cX6_append 2 1 none := ⟨qWA_in (List.mem_of_getElem? (i := 1127) (by decide +kernel)) rfl, qWA_in (List.mem_of_getElem? (i := 111) (by decide +kernel)) rfl, ⟨by decide +kernel, by decide +kernel⟩, by decide +kernel⟩
theorem in_X6_append : Cond.instanceMethod yX6_append ∈ qWA := qWA_in (List.mem_of_getElem? (i := 1126) (by decide +kernel)) rfl
theorem se_X6_append : Cond.selects RX6 yX6_append yX6_append ∈ qWA := qWA_in (List.mem_of_getElem? (i := 50) (by decide +kernel)) rfl
theorem mw_X6_clear : qMw yX6_clear cX6_clear 1 0 none := ⟨qWA_in (List.mem_of_getElem? (i := 1212) (by decide +kernel)) rfl, qWA_in (List.mem_of_getElem? (i := 111) (by decide +kernel)) rfl, ⟨by decide +kernel, by decide +kernel⟩, by decide +kernel⟩
theorem in_X6_clear : Cond.instanceMethod yX6_clear ∈ qWA := qWA_in (List.mem_of_getElem? (i := 1211) (by decide +kernel)) rfl
theorem se_X6_clear : Cond.selects RX6 yX6_clear yX6_clear ∈ qWA := qWA_in (List.mem_of_getElem? (i := 56) (by decide +kernel)) rfl
theorem mw_X6_commandAt : qMw yX6_commandAt cX6_commandAt 2 1 (some (.object "TaskLeveller$Command")) := ⟨qWA_in (List.mem_of_getElem? (i := 1221) (by decide +kernel)) rfl, qWA_in (List.mem_of_getElem? (i := 111) (by decide +kernel)) rfl, ⟨by decide +kernel, by decide +kernel⟩, by decide +kernel⟩
theorem in_X6_commandAt : Cond.instanceMethod yX6_commandAt ∈ qWA := qWA_in (List.mem_of_getElem? (i := 1220) (by decide +kernel)) rfl
theorem se_X6_commandAt : Cond.selects RX6 yX6_commandAt yX6_commandAt ∈ qWA := qWA_in (List.mem_of_getElem? (i := 58) (by decide +kernel)) rfl
theorem mw_X6_numberAt : qMw yX6_numberAt cX6_numberAt 3 2 (some .int) := ⟨qWA_in (List.mem_of_getElem? (i := 1225) (by decide +kernel)) rfl, qWA_in (List.mem_of_getElem? (i := 111) (by decide +kernel)) rfl, ⟨by decide +kernel, by decide +kernel⟩, by decide +kernel⟩
theorem in_X6_numberAt : Cond.instanceMethod yX6_numberAt ∈ qWA := qWA_in (List.mem_of_getElem? (i := 1224) (by decide +kernel)) rfl
theorem se_X6_numberAt : Cond.selects RX6 yX6_numberAt yX6_numberAt ∈ qWA := qWA_in (List.mem_of_getElem? (i := 59) (by decide +kernel)) rfl
theorem mw_X6_read : qMw yX6_read cX6_read 3 0 (some .boolean) := ⟨qWA_in (List.mem_of_getElem? (i := 1138) (by decide +kernel)) rfl, qWA_in (List.mem_of_getElem? (i := 111) (by decide +kernel)) rfl, ⟨by decide +kernel, by decide +kernel⟩, by decide +kernel⟩
theorem in_X6_read : Cond.instanceMethod yX6_read ∈ qWA := qWA_in (List.mem_of_getElem? (i := 1137) (by decide +kernel)) rfl
theorem se_X6_read : Cond.selects RX6 yX6_read yX6_read ∈ qWA := qWA_in (List.mem_of_getElem? (i := 51) (by decide +kernel)) rfl
theorem mw_X6_readCommand : qMw yX6_readCommand cX6_readCommand 7 0 (some .boolean) := ⟨qWA_in (List.mem_of_getElem? (i := 1142) (by decide +kernel)) rfl, qWA_in (List.mem_of_getElem? (i := 111) (by decide +kernel)) rfl, ⟨by decide +kernel, by decide +kernel⟩, by decide +kernel⟩
theorem in_X6_readCommand : Cond.instanceMethod yX6_readCommand ∈ qWA := qWA_in (List.mem_of_getElem? (i := 1141) (by decide +kernel)) rfl
theorem se_X6_readCommand : Cond.selects RX6 yX6_readCommand yX6_readCommand ∈ qWA := qWA_in (List.mem_of_getElem? (i := 52) (by decide +kernel)) rfl
theorem mw_X6_follows : qMw yX6_follows cX6_follows 5 1 (some .boolean) := ⟨qWA_in (List.mem_of_getElem? (i := 1148) (by decide +kernel)) rfl, qWA_in (List.mem_of_getElem? (i := 111) (by decide +kernel)) rfl, ⟨by decide +kernel, by decide +kernel⟩, by decide +kernel⟩
theorem in_X6_follows : Cond.instanceMethod yX6_follows ∈ qWA := qWA_in (List.mem_of_getElem? (i := 1147) (by decide +kernel)) rfl
theorem se_X6_follows : Cond.selects RX6 yX6_follows yX6_follows ∈ qWA := qWA_in (List.mem_of_getElem? (i := 53) (by decide +kernel)) rfl
theorem mw_X6_readNumber : qMw yX6_readNumber cX6_readNumber 5 2 (some .boolean) := ⟨qWA_in (List.mem_of_getElem? (i := 1200) (by decide +kernel)) rfl, qWA_in (List.mem_of_getElem? (i := 111) (by decide +kernel)) rfl, ⟨by decide +kernel, by decide +kernel⟩, by decide +kernel⟩
theorem in_X6_readNumber : Cond.instanceMethod yX6_readNumber ∈ qWA := qWA_in (List.mem_of_getElem? (i := 1199) (by decide +kernel)) rfl
theorem se_X6_readNumber : Cond.selects RX6 yX6_readNumber yX6_readNumber ∈ qWA := qWA_in (List.mem_of_getElem? (i := 54) (by decide +kernel)) rfl
theorem mw_X6_isDigitAt : qMw yX6_isDigitAt cX6_isDigitAt 2 1 (some .boolean) := ⟨qWA_in (List.mem_of_getElem? (i := 1204) (by decide +kernel)) rfl, qWA_in (List.mem_of_getElem? (i := 111) (by decide +kernel)) rfl, ⟨by decide +kernel, by decide +kernel⟩, by decide +kernel⟩
theorem in_X6_isDigitAt : Cond.instanceMethod yX6_isDigitAt ∈ qWA := qWA_in (List.mem_of_getElem? (i := 1203) (by decide +kernel)) rfl
theorem se_X6_isDigitAt : Cond.selects RX6 yX6_isDigitAt yX6_isDigitAt ∈ qWA := qWA_in (List.mem_of_getElem? (i := 55) (by decide +kernel)) rfl
theorem mw_X7_addTask : qMw yX7_addTask cX7_addTask 5 4 (some .int) := ⟨qWA_in (List.mem_of_getElem? (i := 528) (by decide +kernel)) rfl, qWA_in (List.mem_of_getElem? (i := 107) (by decide +kernel)) rfl, ⟨by decide +kernel, by decide +kernel⟩, by decide +kernel⟩
theorem in_X7_addTask : Cond.instanceMethod yX7_addTask ∈ qWA := qWA_in (List.mem_of_getElem? (i := 526) (by decide +kernel)) rfl
theorem se_X7_addTask : Cond.selects RX7 yX7_addTask yX7_addTask ∈ qWA := qWA_in (List.mem_of_getElem? (i := 527) (by decide +kernel)) rfl
theorem mw_X7_removeTask : qMw yX7_removeTask cX7_removeTask 2 1 (some .int) := ⟨qWA_in (List.mem_of_getElem? (i := 691) (by decide +kernel)) rfl, qWA_in (List.mem_of_getElem? (i := 107) (by decide +kernel)) rfl, ⟨by decide +kernel, by decide +kernel⟩, by decide +kernel⟩
theorem in_X7_removeTask : Cond.instanceMethod yX7_removeTask ∈ qWA := qWA_in (List.mem_of_getElem? (i := 689) (by decide +kernel)) rfl
theorem se_X7_removeTask : Cond.selects RX7 yX7_removeTask yX7_removeTask ∈ qWA := qWA_in (List.mem_of_getElem? (i := 690) (by decide +kernel)) rfl
theorem mw_X7_addDependency : qMw yX7_addDependency cX7_addDependency 4 2 (some .boolean) := ⟨qWA_in (List.mem_of_getElem? (i := 711) (by decide +kernel)) rfl, qWA_in (List.mem_of_getElem? (i := 107) (by decide +kernel)) rfl, ⟨by decide +kernel, by decide +kernel⟩, by decide +kernel⟩
theorem in_X7_addDependency : Cond.instanceMethod yX7_addDependency ∈ qWA := qWA_in (List.mem_of_getElem? (i := 709) (by decide +kernel)) rfl
theorem se_X7_addDependency : Cond.selects RX7 yX7_addDependency yX7_addDependency ∈ qWA := qWA_in (List.mem_of_getElem? (i := 710) (by decide +kernel)) rfl
theorem mw_X7_removeDependency : qMw yX7_removeDependency cX7_removeDependency 4 2 (some .boolean) := ⟨qWA_in (List.mem_of_getElem? (i := 733) (by decide +kernel)) rfl, qWA_in (List.mem_of_getElem? (i := 107) (by decide +kernel)) rfl, ⟨by decide +kernel, by decide +kernel⟩, by decide +kernel⟩
theorem in_X7_removeDependency : Cond.instanceMethod yX7_removeDependency ∈ qWA := qWA_in (List.mem_of_getElem? (i := 731) (by decide +kernel)) rfl
theorem se_X7_removeDependency : Cond.selects RX7 yX7_removeDependency yX7_removeDependency ∈ qWA := qWA_in (List.mem_of_getElem? (i := 732) (by decide +kernel)) rfl
theorem mw_X7_setDuration : qMw yX7_setDuration cX7_setDuration 4 2 (some .int) := ⟨qWA_in (List.mem_of_getElem? (i := 745) (by decide +kernel)) rfl, qWA_in (List.mem_of_getElem? (i := 107) (by decide +kernel)) rfl, ⟨by decide +kernel, by decide +kernel⟩, by decide +kernel⟩
theorem in_X7_setDuration : Cond.instanceMethod yX7_setDuration ∈ qWA := qWA_in (List.mem_of_getElem? (i := 743) (by decide +kernel)) rfl
theorem se_X7_setDuration : Cond.selects RX7 yX7_setDuration yX7_setDuration ∈ qWA := qWA_in (List.mem_of_getElem? (i := 744) (by decide +kernel)) rfl
theorem mw_X7_setRelease : qMw yX7_setRelease cX7_setRelease 4 2 (some .int) := ⟨qWA_in (List.mem_of_getElem? (i := 757) (by decide +kernel)) rfl, qWA_in (List.mem_of_getElem? (i := 107) (by decide +kernel)) rfl, ⟨by decide +kernel, by decide +kernel⟩, by decide +kernel⟩
theorem in_X7_setRelease : Cond.instanceMethod yX7_setRelease ∈ qWA := qWA_in (List.mem_of_getElem? (i := 755) (by decide +kernel)) rfl
theorem se_X7_setRelease : Cond.selects RX7 yX7_setRelease yX7_setRelease ∈ qWA := qWA_in (List.mem_of_getElem? (i := 756) (by decide +kernel)) rfl
theorem mw_X7_setLimit : qMw yX7_setLimit cX7_setLimit 4 2 (some .int) := ⟨qWA_in (List.mem_of_getElem? (i := 768) (by decide +kernel)) rfl, qWA_in (List.mem_of_getElem? (i := 107) (by decide +kernel)) rfl, ⟨by decide +kernel, by decide +kernel⟩, by decide +kernel⟩
theorem in_X7_setLimit : Cond.instanceMethod yX7_setLimit ∈ qWA := qWA_in (List.mem_of_getElem? (i := 766) (by decide +kernel)) rfl
theorem se_X7_setLimit : Cond.selects RX7 yX7_setLimit yX7_setLimit ∈ qWA := qWA_in (List.mem_of_getElem? (i := 767) (by decide +kernel)) rfl
theorem mw_X7_takeBaseline : qMw yX7_takeBaseline cX7_takeBaseline 2 0 (some .int) := ⟨qWA_in (List.mem_of_getElem? (i := 344) (by decide +kernel)) rfl, qWA_in (List.mem_of_getElem? (i := 107) (by decide +kernel)) rfl, ⟨by decide +kernel, by decide +kernel⟩, by decide +kernel⟩
theorem in_X7_takeBaseline : Cond.instanceMethod yX7_takeBaseline ∈ qWA := qWA_in (List.mem_of_getElem? (i := 342) (by decide +kernel)) rfl
theorem se_X7_takeBaseline : Cond.selects RX7 yX7_takeBaseline yX7_takeBaseline ∈ qWA := qWA_in (List.mem_of_getElem? (i := 343) (by decide +kernel)) rfl
theorem mw_X7_taskCount : qMw yX7_taskCount cX7_taskCount 1 0 (some .int) := ⟨qWA_in (List.mem_of_getElem? (i := 457) (by decide +kernel)) rfl, qWA_in (List.mem_of_getElem? (i := 107) (by decide +kernel)) rfl, ⟨by decide +kernel, by decide +kernel⟩, by decide +kernel⟩
theorem in_X7_taskCount : Cond.instanceMethod yX7_taskCount ∈ qWA := qWA_in (List.mem_of_getElem? (i := 455) (by decide +kernel)) rfl
theorem se_X7_taskCount : Cond.selects RX7 yX7_taskCount yX7_taskCount ∈ qWA := qWA_in (List.mem_of_getElem? (i := 456) (by decide +kernel)) rfl
theorem mw_X7_duration : qMw yX7_duration cX7_duration 2 1 (some .int) := ⟨qWA_in (List.mem_of_getElem? (i := 779) (by decide +kernel)) rfl, qWA_in (List.mem_of_getElem? (i := 107) (by decide +kernel)) rfl, ⟨by decide +kernel, by decide +kernel⟩, by decide +kernel⟩
theorem in_X7_duration : Cond.instanceMethod yX7_duration ∈ qWA := qWA_in (List.mem_of_getElem? (i := 777) (by decide +kernel)) rfl
theorem se_X7_duration : Cond.selects RX7 yX7_duration yX7_duration ∈ qWA := qWA_in (List.mem_of_getElem? (i := 778) (by decide +kernel)) rfl
theorem mw_X7_resource : qMw yX7_resource cX7_resource 2 1 (some .int) := ⟨qWA_in (List.mem_of_getElem? (i := 790) (by decide +kernel)) rfl, qWA_in (List.mem_of_getElem? (i := 107) (by decide +kernel)) rfl, ⟨by decide +kernel, by decide +kernel⟩, by decide +kernel⟩
theorem in_X7_resource : Cond.instanceMethod yX7_resource ∈ qWA := qWA_in (List.mem_of_getElem? (i := 788) (by decide +kernel)) rfl
theorem se_X7_resource : Cond.selects RX7 yX7_resource yX7_resource ∈ qWA := qWA_in (List.mem_of_getElem? (i := 789) (by decide +kernel)) rfl
theorem mw_X7_demand : qMw yX7_demand cX7_demand 2 1 (some .int) := ⟨qWA_in (List.mem_of_getElem? (i := 797) (by decide +kernel)) rfl, qWA_in (List.mem_of_getElem? (i := 107) (by decide +kernel)) rfl, ⟨by decide +kernel, by decide +kernel⟩, by decide +kernel⟩
theorem in_X7_demand : Cond.instanceMethod yX7_demand ∈ qWA := qWA_in (List.mem_of_getElem? (i := 795) (by decide +kernel)) rfl
theorem se_X7_demand : Cond.selects RX7 yX7_demand yX7_demand ∈ qWA := qWA_in (List.mem_of_getElem? (i := 796) (by decide +kernel)) rfl
theorem mw_X7_release : qMw yX7_release cX7_release 2 1 (some .int) := ⟨qWA_in (List.mem_of_getElem? (i := 804) (by decide +kernel)) rfl, qWA_in (List.mem_of_getElem? (i := 107) (by decide +kernel)) rfl, ⟨by decide +kernel, by decide +kernel⟩, by decide +kernel⟩
theorem in_X7_release : Cond.instanceMethod yX7_release ∈ qWA := qWA_in (List.mem_of_getElem? (i := 802) (by decide +kernel)) rfl
theorem se_X7_release : Cond.selects RX7 yX7_release yX7_release ∈ qWA := qWA_in (List.mem_of_getElem? (i := 803) (by decide +kernel)) rfl
theorem mw_X7_limit : qMw yX7_limit cX7_limit 2 1 (some .int) := ⟨qWA_in (List.mem_of_getElem? (i := 811) (by decide +kernel)) rfl, qWA_in (List.mem_of_getElem? (i := 107) (by decide +kernel)) rfl, ⟨by decide +kernel, by decide +kernel⟩, by decide +kernel⟩
theorem in_X7_limit : Cond.instanceMethod yX7_limit ∈ qWA := qWA_in (List.mem_of_getElem? (i := 809) (by decide +kernel)) rfl
theorem se_X7_limit : Cond.selects RX7 yX7_limit yX7_limit ∈ qWA := qWA_in (List.mem_of_getElem? (i := 810) (by decide +kernel)) rfl
theorem mw_X7_dependsDirectly : qMw yX7_dependsDirectly cX7_dependsDirectly 3 2 (some .boolean) := ⟨qWA_in (List.mem_of_getElem? (i := 823) (by decide +kernel)) rfl, qWA_in (List.mem_of_getElem? (i := 107) (by decide +kernel)) rfl, ⟨by decide +kernel, by decide +kernel⟩, by decide +kernel⟩
theorem in_X7_dependsDirectly : Cond.instanceMethod yX7_dependsDirectly ∈ qWA := qWA_in (List.mem_of_getElem? (i := 821) (by decide +kernel)) rfl
theorem se_X7_dependsDirectly : Cond.selects RX7 yX7_dependsDirectly yX7_dependsDirectly ∈ qWA := qWA_in (List.mem_of_getElem? (i := 822) (by decide +kernel)) rfl
theorem mw_X7_depends : qMw yX7_depends cX7_depends 3 2 (some .boolean) := ⟨qWA_in (List.mem_of_getElem? (i := 830) (by decide +kernel)) rfl, qWA_in (List.mem_of_getElem? (i := 107) (by decide +kernel)) rfl, ⟨by decide +kernel, by decide +kernel⟩, by decide +kernel⟩
theorem in_X7_depends : Cond.instanceMethod yX7_depends ∈ qWA := qWA_in (List.mem_of_getElem? (i := 828) (by decide +kernel)) rfl
theorem se_X7_depends : Cond.selects RX7 yX7_depends yX7_depends ∈ qWA := qWA_in (List.mem_of_getElem? (i := 829) (by decide +kernel)) rfl
theorem mw_X7_dependsByClosure : qMw yX7_dependsByClosure cX7_dependsByClosure 3 2 (some .boolean) := ⟨qWA_in (List.mem_of_getElem? (i := 837) (by decide +kernel)) rfl, qWA_in (List.mem_of_getElem? (i := 107) (by decide +kernel)) rfl, ⟨by decide +kernel, by decide +kernel⟩, by decide +kernel⟩
theorem in_X7_dependsByClosure : Cond.instanceMethod yX7_dependsByClosure ∈ qWA := qWA_in (List.mem_of_getElem? (i := 835) (by decide +kernel)) rfl
theorem se_X7_dependsByClosure : Cond.selects RX7 yX7_dependsByClosure yX7_dependsByClosure ∈ qWA := qWA_in (List.mem_of_getElem? (i := 836) (by decide +kernel)) rfl
theorem mw_X7_neededCount : qMw yX7_neededCount cX7_neededCount 2 1 (some .int) := ⟨qWA_in (List.mem_of_getElem? (i := 844) (by decide +kernel)) rfl, qWA_in (List.mem_of_getElem? (i := 107) (by decide +kernel)) rfl, ⟨by decide +kernel, by decide +kernel⟩, by decide +kernel⟩
theorem in_X7_neededCount : Cond.instanceMethod yX7_neededCount ∈ qWA := qWA_in (List.mem_of_getElem? (i := 842) (by decide +kernel)) rfl
theorem se_X7_neededCount : Cond.selects RX7 yX7_neededCount yX7_neededCount ∈ qWA := qWA_in (List.mem_of_getElem? (i := 843) (by decide +kernel)) rfl
theorem mw_X7_dependentCount : qMw yX7_dependentCount cX7_dependentCount 4 1 (some .int) := ⟨qWA_in (List.mem_of_getElem? (i := 857) (by decide +kernel)) rfl, qWA_in (List.mem_of_getElem? (i := 107) (by decide +kernel)) rfl, ⟨by decide +kernel, by decide +kernel⟩, by decide +kernel⟩
theorem in_X7_dependentCount : Cond.instanceMethod yX7_dependentCount ∈ qWA := qWA_in (List.mem_of_getElem? (i := 855) (by decide +kernel)) rfl
theorem se_X7_dependentCount : Cond.selects RX7 yX7_dependentCount yX7_dependentCount ∈ qWA := qWA_in (List.mem_of_getElem? (i := 856) (by decide +kernel)) rfl
theorem mw_X7_taskInOrder : qMw yX7_taskInOrder cX7_taskInOrder 2 1 (some .int) := ⟨qWA_in (List.mem_of_getElem? (i := 865) (by decide +kernel)) rfl, qWA_in (List.mem_of_getElem? (i := 107) (by decide +kernel)) rfl, ⟨by decide +kernel, by decide +kernel⟩, by decide +kernel⟩
theorem in_X7_taskInOrder : Cond.instanceMethod yX7_taskInOrder ∈ qWA := qWA_in (List.mem_of_getElem? (i := 863) (by decide +kernel)) rfl
theorem se_X7_taskInOrder : Cond.selects RX7 yX7_taskInOrder yX7_taskInOrder ∈ qWA := qWA_in (List.mem_of_getElem? (i := 864) (by decide +kernel)) rfl
theorem mw_X7_earliestStart : qMw yX7_earliestStart cX7_earliestStart 2 1 (some .int) := ⟨qWA_in (List.mem_of_getElem? (i := 888) (by decide +kernel)) rfl, qWA_in (List.mem_of_getElem? (i := 107) (by decide +kernel)) rfl, ⟨by decide +kernel, by decide +kernel⟩, by decide +kernel⟩
theorem in_X7_earliestStart : Cond.instanceMethod yX7_earliestStart ∈ qWA := qWA_in (List.mem_of_getElem? (i := 886) (by decide +kernel)) rfl
theorem se_X7_earliestStart : Cond.selects RX7 yX7_earliestStart yX7_earliestStart ∈ qWA := qWA_in (List.mem_of_getElem? (i := 887) (by decide +kernel)) rfl
theorem mw_X7_earliestStartByRounds : qMw yX7_earliestStartByRounds cX7_earliestStartByRounds 2 1 (some .int) := ⟨qWA_in (List.mem_of_getElem? (i := 895) (by decide +kernel)) rfl, qWA_in (List.mem_of_getElem? (i := 107) (by decide +kernel)) rfl, ⟨by decide +kernel, by decide +kernel⟩, by decide +kernel⟩
theorem in_X7_earliestStartByRounds : Cond.instanceMethod yX7_earliestStartByRounds ∈ qWA := qWA_in (List.mem_of_getElem? (i := 893) (by decide +kernel)) rfl
theorem se_X7_earliestStartByRounds : Cond.selects RX7 yX7_earliestStartByRounds yX7_earliestStartByRounds ∈ qWA := qWA_in (List.mem_of_getElem? (i := 894) (by decide +kernel)) rfl
theorem mw_X7_latestStart : qMw yX7_latestStart cX7_latestStart 2 1 (some .int) := ⟨qWA_in (List.mem_of_getElem? (i := 902) (by decide +kernel)) rfl, qWA_in (List.mem_of_getElem? (i := 107) (by decide +kernel)) rfl, ⟨by decide +kernel, by decide +kernel⟩, by decide +kernel⟩
theorem in_X7_latestStart : Cond.instanceMethod yX7_latestStart ∈ qWA := qWA_in (List.mem_of_getElem? (i := 900) (by decide +kernel)) rfl
theorem se_X7_latestStart : Cond.selects RX7 yX7_latestStart yX7_latestStart ∈ qWA := qWA_in (List.mem_of_getElem? (i := 901) (by decide +kernel)) rfl
theorem mw_X7_slack : qMw yX7_slack cX7_slack 2 1 (some .int) := ⟨qWA_in (List.mem_of_getElem? (i := 909) (by decide +kernel)) rfl, qWA_in (List.mem_of_getElem? (i := 107) (by decide +kernel)) rfl, ⟨by decide +kernel, by decide +kernel⟩, by decide +kernel⟩
theorem in_X7_slack : Cond.instanceMethod yX7_slack ∈ qWA := qWA_in (List.mem_of_getElem? (i := 907) (by decide +kernel)) rfl
theorem se_X7_slack : Cond.selects RX7 yX7_slack yX7_slack ∈ qWA := qWA_in (List.mem_of_getElem? (i := 908) (by decide +kernel)) rfl
theorem mw_X7_isCritical : qMw yX7_isCritical cX7_isCritical 2 1 (some .boolean) := ⟨qWA_in (List.mem_of_getElem? (i := 916) (by decide +kernel)) rfl, qWA_in (List.mem_of_getElem? (i := 107) (by decide +kernel)) rfl, ⟨by decide +kernel, by decide +kernel⟩, by decide +kernel⟩
theorem in_X7_isCritical : Cond.instanceMethod yX7_isCritical ∈ qWA := qWA_in (List.mem_of_getElem? (i := 914) (by decide +kernel)) rfl
theorem se_X7_isCritical : Cond.selects RX7 yX7_isCritical yX7_isCritical ∈ qWA := qWA_in (List.mem_of_getElem? (i := 915) (by decide +kernel)) rfl
theorem mw_X7_projectLength : qMw yX7_projectLength cX7_projectLength 1 0 (some .int) := ⟨qWA_in (List.mem_of_getElem? (i := 461) (by decide +kernel)) rfl, qWA_in (List.mem_of_getElem? (i := 107) (by decide +kernel)) rfl, ⟨by decide +kernel, by decide +kernel⟩, by decide +kernel⟩
theorem in_X7_projectLength : Cond.instanceMethod yX7_projectLength ∈ qWA := qWA_in (List.mem_of_getElem? (i := 459) (by decide +kernel)) rfl
theorem se_X7_projectLength : Cond.selects RX7 yX7_projectLength yX7_projectLength ∈ qWA := qWA_in (List.mem_of_getElem? (i := 460) (by decide +kernel)) rfl
theorem mw_X7_criticalCount : qMw yX7_criticalCount cX7_criticalCount 4 0 (some .int) := ⟨qWA_in (List.mem_of_getElem? (i := 465) (by decide +kernel)) rfl, qWA_in (List.mem_of_getElem? (i := 107) (by decide +kernel)) rfl, ⟨by decide +kernel, by decide +kernel⟩, by decide +kernel⟩
theorem in_X7_criticalCount : Cond.instanceMethod yX7_criticalCount ∈ qWA := qWA_in (List.mem_of_getElem? (i := 463) (by decide +kernel)) rfl
theorem se_X7_criticalCount : Cond.selects RX7 yX7_criticalCount yX7_criticalCount ∈ qWA := qWA_in (List.mem_of_getElem? (i := 464) (by decide +kernel)) rfl
theorem mw_X7_lastTask : qMw yX7_lastTask cX7_lastTask 3 0 (some .int) := ⟨qWA_in (List.mem_of_getElem? (i := 923) (by decide +kernel)) rfl, qWA_in (List.mem_of_getElem? (i := 107) (by decide +kernel)) rfl, ⟨by decide +kernel, by decide +kernel⟩, by decide +kernel⟩
theorem in_X7_lastTask : Cond.instanceMethod yX7_lastTask ∈ qWA := qWA_in (List.mem_of_getElem? (i := 921) (by decide +kernel)) rfl
theorem se_X7_lastTask : Cond.selects RX7 yX7_lastTask yX7_lastTask ∈ qWA := qWA_in (List.mem_of_getElem? (i := 922) (by decide +kernel)) rfl
theorem mw_X7_levelledStart : qMw yX7_levelledStart cX7_levelledStart 2 1 (some .int) := ⟨qWA_in (List.mem_of_getElem? (i := 931) (by decide +kernel)) rfl, qWA_in (List.mem_of_getElem? (i := 107) (by decide +kernel)) rfl, ⟨by decide +kernel, by decide +kernel⟩, by decide +kernel⟩
theorem in_X7_levelledStart : Cond.instanceMethod yX7_levelledStart ∈ qWA := qWA_in (List.mem_of_getElem? (i := 929) (by decide +kernel)) rfl
theorem se_X7_levelledStart : Cond.selects RX7 yX7_levelledStart yX7_levelledStart ∈ qWA := qWA_in (List.mem_of_getElem? (i := 930) (by decide +kernel)) rfl
theorem mw_X7_levelledLength : qMw yX7_levelledLength cX7_levelledLength 1 0 (some .int) := ⟨qWA_in (List.mem_of_getElem? (i := 473) (by decide +kernel)) rfl, qWA_in (List.mem_of_getElem? (i := 107) (by decide +kernel)) rfl, ⟨by decide +kernel, by decide +kernel⟩, by decide +kernel⟩
theorem in_X7_levelledLength : Cond.instanceMethod yX7_levelledLength ∈ qWA := qWA_in (List.mem_of_getElem? (i := 471) (by decide +kernel)) rfl
theorem se_X7_levelledLength : Cond.selects RX7 yX7_levelledLength yX7_levelledLength ∈ qWA := qWA_in (List.mem_of_getElem? (i := 472) (by decide +kernel)) rfl
theorem mw_X7_usage : qMw yX7_usage cX7_usage 3 2 (some .int) := ⟨qWA_in (List.mem_of_getElem? (i := 938) (by decide +kernel)) rfl, qWA_in (List.mem_of_getElem? (i := 107) (by decide +kernel)) rfl, ⟨by decide +kernel, by decide +kernel⟩, by decide +kernel⟩
theorem in_X7_usage : Cond.instanceMethod yX7_usage ∈ qWA := qWA_in (List.mem_of_getElem? (i := 936) (by decide +kernel)) rfl
theorem se_X7_usage : Cond.selects RX7 yX7_usage yX7_usage ∈ qWA := qWA_in (List.mem_of_getElem? (i := 937) (by decide +kernel)) rfl
theorem mw_X7_usageByTasks : qMw yX7_usageByTasks cX7_usageByTasks 5 2 (some .int) := ⟨qWA_in (List.mem_of_getElem? (i := 950) (by decide +kernel)) rfl, qWA_in (List.mem_of_getElem? (i := 107) (by decide +kernel)) rfl, ⟨by decide +kernel, by decide +kernel⟩, by decide +kernel⟩
theorem in_X7_usageByTasks : Cond.instanceMethod yX7_usageByTasks ∈ qWA := qWA_in (List.mem_of_getElem? (i := 948) (by decide +kernel)) rfl
theorem se_X7_usageByTasks : Cond.selects RX7 yX7_usageByTasks yX7_usageByTasks ∈ qWA := qWA_in (List.mem_of_getElem? (i := 949) (by decide +kernel)) rfl
theorem mw_X7_peakUsage : qMw yX7_peakUsage cX7_peakUsage 5 1 (some .int) := ⟨qWA_in (List.mem_of_getElem? (i := 961) (by decide +kernel)) rfl, qWA_in (List.mem_of_getElem? (i := 107) (by decide +kernel)) rfl, ⟨by decide +kernel, by decide +kernel⟩, by decide +kernel⟩
theorem in_X7_peakUsage : Cond.instanceMethod yX7_peakUsage ∈ qWA := qWA_in (List.mem_of_getElem? (i := 959) (by decide +kernel)) rfl
theorem se_X7_peakUsage : Cond.selects RX7 yX7_peakUsage yX7_peakUsage ∈ qWA := qWA_in (List.mem_of_getElem? (i := 960) (by decide +kernel)) rfl
theorem mw_X7_tasksOn : qMw yX7_tasksOn cX7_tasksOn 4 1 (some .int) := ⟨qWA_in (List.mem_of_getElem? (i := 968) (by decide +kernel)) rfl, qWA_in (List.mem_of_getElem? (i := 107) (by decide +kernel)) rfl, ⟨by decide +kernel, by decide +kernel⟩, by decide +kernel⟩
theorem in_X7_tasksOn : Cond.instanceMethod yX7_tasksOn ∈ qWA := qWA_in (List.mem_of_getElem? (i := 966) (by decide +kernel)) rfl
theorem se_X7_tasksOn : Cond.selects RX7 yX7_tasksOn yX7_tasksOn ∈ qWA := qWA_in (List.mem_of_getElem? (i := 967) (by decide +kernel)) rfl
theorem mw_X7_workload : qMw yX7_workload cX7_workload 2 1 (some .int) := ⟨qWA_in (List.mem_of_getElem? (i := 975) (by decide +kernel)) rfl, qWA_in (List.mem_of_getElem? (i := 107) (by decide +kernel)) rfl, ⟨by decide +kernel, by decide +kernel⟩, by decide +kernel⟩
theorem in_X7_workload : Cond.instanceMethod yX7_workload ∈ qWA := qWA_in (List.mem_of_getElem? (i := 973) (by decide +kernel)) rfl
theorem se_X7_workload : Cond.selects RX7 yX7_workload yX7_workload ∈ qWA := qWA_in (List.mem_of_getElem? (i := 974) (by decide +kernel)) rfl
theorem mw_X7_workloadByDays : qMw yX7_workloadByDays cX7_workloadByDays 2 1 (some .int) := ⟨qWA_in (List.mem_of_getElem? (i := 982) (by decide +kernel)) rfl, qWA_in (List.mem_of_getElem? (i := 107) (by decide +kernel)) rfl, ⟨by decide +kernel, by decide +kernel⟩, by decide +kernel⟩
theorem in_X7_workloadByDays : Cond.instanceMethod yX7_workloadByDays ∈ qWA := qWA_in (List.mem_of_getElem? (i := 980) (by decide +kernel)) rfl
theorem se_X7_workloadByDays : Cond.selects RX7 yX7_workloadByDays yX7_workloadByDays ∈ qWA := qWA_in (List.mem_of_getElem? (i := 981) (by decide +kernel)) rfl
theorem mw_X7_hasBaseline : qMw yX7_hasBaseline cX7_hasBaseline 1 0 (some .boolean) := ⟨qWA_in (List.mem_of_getElem? (i := 477) (by decide +kernel)) rfl, qWA_in (List.mem_of_getElem? (i := 107) (by decide +kernel)) rfl, ⟨by decide +kernel, by decide +kernel⟩, by decide +kernel⟩
theorem in_X7_hasBaseline : Cond.instanceMethod yX7_hasBaseline ∈ qWA := qWA_in (List.mem_of_getElem? (i := 475) (by decide +kernel)) rfl
theorem se_X7_hasBaseline : Cond.selects RX7 yX7_hasBaseline yX7_hasBaseline ∈ qWA := qWA_in (List.mem_of_getElem? (i := 476) (by decide +kernel)) rfl
theorem mw_X7_baselineStart : qMw yX7_baselineStart cX7_baselineStart 2 1 (some .int) := ⟨qWA_in (List.mem_of_getElem? (i := 989) (by decide +kernel)) rfl, qWA_in (List.mem_of_getElem? (i := 107) (by decide +kernel)) rfl, ⟨by decide +kernel, by decide +kernel⟩, by decide +kernel⟩
theorem in_X7_baselineStart : Cond.instanceMethod yX7_baselineStart ∈ qWA := qWA_in (List.mem_of_getElem? (i := 987) (by decide +kernel)) rfl
theorem se_X7_baselineStart : Cond.selects RX7 yX7_baselineStart yX7_baselineStart ∈ qWA := qWA_in (List.mem_of_getElem? (i := 988) (by decide +kernel)) rfl
theorem mw_X7_drift : qMw yX7_drift cX7_drift 2 1 (some .int) := ⟨qWA_in (List.mem_of_getElem? (i := 1005) (by decide +kernel)) rfl, qWA_in (List.mem_of_getElem? (i := 107) (by decide +kernel)) rfl, ⟨by decide +kernel, by decide +kernel⟩, by decide +kernel⟩
theorem in_X7_drift : Cond.instanceMethod yX7_drift ∈ qWA := qWA_in (List.mem_of_getElem? (i := 1003) (by decide +kernel)) rfl
theorem se_X7_drift : Cond.selects RX7 yX7_drift yX7_drift ∈ qWA := qWA_in (List.mem_of_getElem? (i := 1004) (by decide +kernel)) rfl
theorem mw_X7_totalDrift : qMw yX7_totalDrift cX7_totalDrift 3 0 (some .int) := ⟨qWA_in (List.mem_of_getElem? (i := 1016) (by decide +kernel)) rfl, qWA_in (List.mem_of_getElem? (i := 107) (by decide +kernel)) rfl, ⟨by decide +kernel, by decide +kernel⟩, by decide +kernel⟩
theorem in_X7_totalDrift : Cond.instanceMethod yX7_totalDrift ∈ qWA := qWA_in (List.mem_of_getElem? (i := 1014) (by decide +kernel)) rfl
theorem se_X7_totalDrift : Cond.selects RX7 yX7_totalDrift yX7_totalDrift ∈ qWA := qWA_in (List.mem_of_getElem? (i := 1015) (by decide +kernel)) rfl
theorem mw_X7_taskBySlack : qMw yX7_taskBySlack cX7_taskBySlack 4 1 (some .int) := ⟨qWA_in (List.mem_of_getElem? (i := 1027) (by decide +kernel)) rfl, qWA_in (List.mem_of_getElem? (i := 107) (by decide +kernel)) rfl, ⟨by decide +kernel, by decide +kernel⟩, by decide +kernel⟩
theorem in_X7_taskBySlack : Cond.instanceMethod yX7_taskBySlack ∈ qWA := qWA_in (List.mem_of_getElem? (i := 1025) (by decide +kernel)) rfl
theorem se_X7_taskBySlack : Cond.selects RX7 yX7_taskBySlack yX7_taskBySlack ∈ qWA := qWA_in (List.mem_of_getElem? (i := 1026) (by decide +kernel)) rfl
theorem mw_X7_taskByStart : qMw yX7_taskByStart cX7_taskByStart 4 1 (some .int) := ⟨qWA_in (List.mem_of_getElem? (i := 1046) (by decide +kernel)) rfl, qWA_in (List.mem_of_getElem? (i := 107) (by decide +kernel)) rfl, ⟨by decide +kernel, by decide +kernel⟩, by decide +kernel⟩
theorem in_X7_taskByStart : Cond.instanceMethod yX7_taskByStart ∈ qWA := qWA_in (List.mem_of_getElem? (i := 1044) (by decide +kernel)) rfl
theorem se_X7_taskByStart : Cond.selects RX7 yX7_taskByStart yX7_taskByStart ∈ qWA := qWA_in (List.mem_of_getElem? (i := 1045) (by decide +kernel)) rfl
theorem mw_X7_meanSlack : qMw yX7_meanSlack cX7_meanSlack 5 0 (some .double) := ⟨qWA_in (List.mem_of_getElem? (i := 1067) (by decide +kernel)) rfl, qWA_in (List.mem_of_getElem? (i := 107) (by decide +kernel)) rfl, ⟨by decide +kernel, by decide +kernel⟩, by decide +kernel⟩
theorem in_X7_meanSlack : Cond.instanceMethod yX7_meanSlack ∈ qWA := qWA_in (List.mem_of_getElem? (i := 1065) (by decide +kernel)) rfl
theorem se_X7_meanSlack : Cond.selects RX7 yX7_meanSlack yX7_meanSlack ∈ qWA := qWA_in (List.mem_of_getElem? (i := 1066) (by decide +kernel)) rfl
theorem mw_X7_utilization : qMw yX7_utilization cX7_utilization 3 1 (some .float) := ⟨qWA_in (List.mem_of_getElem? (i := 1076) (by decide +kernel)) rfl, qWA_in (List.mem_of_getElem? (i := 107) (by decide +kernel)) rfl, ⟨by decide +kernel, by decide +kernel⟩, by decide +kernel⟩
theorem in_X7_utilization : Cond.instanceMethod yX7_utilization ∈ qWA := qWA_in (List.mem_of_getElem? (i := 1074) (by decide +kernel)) rfl
theorem se_X7_utilization : Cond.selects RX7 yX7_utilization yX7_utilization ∈ qWA := qWA_in (List.mem_of_getElem? (i := 1075) (by decide +kernel)) rfl
theorem mw_X7_isConsistent : qMw yX7_isConsistent cX7_isConsistent 1 0 (some .boolean) := ⟨qWA_in (List.mem_of_getElem? (i := 481) (by decide +kernel)) rfl, qWA_in (List.mem_of_getElem? (i := 107) (by decide +kernel)) rfl, ⟨by decide +kernel, by decide +kernel⟩, by decide +kernel⟩
theorem in_X7_isConsistent : Cond.instanceMethod yX7_isConsistent ∈ qWA := qWA_in (List.mem_of_getElem? (i := 479) (by decide +kernel)) rfl
theorem se_X7_isConsistent : Cond.selects RX7 yX7_isConsistent yX7_isConsistent ∈ qWA := qWA_in (List.mem_of_getElem? (i := 480) (by decide +kernel)) rfl
theorem mw_X7_renderTask : qMw yX7_renderTask cX7_renderTask 4 1 (some .int) := ⟨qWA_in (List.mem_of_getElem? (i := 1083) (by decide +kernel)) rfl, qWA_in (List.mem_of_getElem? (i := 107) (by decide +kernel)) rfl, ⟨by decide +kernel, by decide +kernel⟩, by decide +kernel⟩
theorem in_X7_renderTask : Cond.instanceMethod yX7_renderTask ∈ qWA := qWA_in (List.mem_of_getElem? (i := 1081) (by decide +kernel)) rfl
theorem se_X7_renderTask : Cond.selects RX7 yX7_renderTask yX7_renderTask ∈ qWA := qWA_in (List.mem_of_getElem? (i := 1082) (by decide +kernel)) rfl
theorem mw_X7_renderUsage : qMw yX7_renderUsage cX7_renderUsage 4 1 (some .int) := ⟨qWA_in (List.mem_of_getElem? (i := 1103) (by decide +kernel)) rfl, qWA_in (List.mem_of_getElem? (i := 107) (by decide +kernel)) rfl, ⟨by decide +kernel, by decide +kernel⟩, by decide +kernel⟩
theorem in_X7_renderUsage : Cond.instanceMethod yX7_renderUsage ∈ qWA := qWA_in (List.mem_of_getElem? (i := 1101) (by decide +kernel)) rfl
theorem se_X7_renderUsage : Cond.selects RX7 yX7_renderUsage yX7_renderUsage ∈ qWA := qWA_in (List.mem_of_getElem? (i := 1102) (by decide +kernel)) rfl
theorem mw_X7_outputAt : qMw yX7_outputAt cX7_outputAt 2 1 (some .char) := ⟨qWA_in (List.mem_of_getElem? (i := 1110) (by decide +kernel)) rfl, qWA_in (List.mem_of_getElem? (i := 107) (by decide +kernel)) rfl, ⟨by decide +kernel, by decide +kernel⟩, by decide +kernel⟩
theorem in_X7_outputAt : Cond.instanceMethod yX7_outputAt ∈ qWA := qWA_in (List.mem_of_getElem? (i := 1108) (by decide +kernel)) rfl
theorem se_X7_outputAt : Cond.selects RX7 yX7_outputAt yX7_outputAt ∈ qWA := qWA_in (List.mem_of_getElem? (i := 1109) (by decide +kernel)) rfl
theorem mw_X7_type : qMw yX7_type cX7_type 2 1 (some .int) := ⟨qWA_in (List.mem_of_getElem? (i := 1121) (by decide +kernel)) rfl, qWA_in (List.mem_of_getElem? (i := 107) (by decide +kernel)) rfl, ⟨by decide +kernel, by decide +kernel⟩, by decide +kernel⟩
theorem in_X7_type : Cond.instanceMethod yX7_type ∈ qWA := qWA_in (List.mem_of_getElem? (i := 1119) (by decide +kernel)) rfl
theorem se_X7_type : Cond.selects RX7 yX7_type yX7_type ∈ qWA := qWA_in (List.mem_of_getElem? (i := 1120) (by decide +kernel)) rfl
theorem mw_X7_runScript : qMw yX7_runScript cX7_runScript 4 0 (some .int) := ⟨qWA_in (List.mem_of_getElem? (i := 1134) (by decide +kernel)) rfl, qWA_in (List.mem_of_getElem? (i := 107) (by decide +kernel)) rfl, ⟨by decide +kernel, by decide +kernel⟩, by decide +kernel⟩
theorem in_X7_runScript : Cond.instanceMethod yX7_runScript ∈ qWA := qWA_in (List.mem_of_getElem? (i := 1132) (by decide +kernel)) rfl
theorem se_X7_runScript : Cond.selects RX7 yX7_runScript yX7_runScript ∈ qWA := qWA_in (List.mem_of_getElem? (i := 1133) (by decide +kernel)) rfl
theorem mw_X7_errorPosition : qMw yX7_errorPosition cX7_errorPosition 1 0 (some .int) := ⟨qWA_in (List.mem_of_getElem? (i := 1253) (by decide +kernel)) rfl, qWA_in (List.mem_of_getElem? (i := 107) (by decide +kernel)) rfl, ⟨by decide +kernel, by decide +kernel⟩, by decide +kernel⟩
theorem in_X7_errorPosition : Cond.instanceMethod yX7_errorPosition ∈ qWA := qWA_in (List.mem_of_getElem? (i := 1251) (by decide +kernel)) rfl
theorem se_X7_errorPosition : Cond.selects RX7 yX7_errorPosition yX7_errorPosition ∈ qWA := qWA_in (List.mem_of_getElem? (i := 1252) (by decide +kernel)) rfl
theorem mw_X7_failedCommand : qMw yX7_failedCommand cX7_failedCommand 1 0 (some .int) := ⟨qWA_in (List.mem_of_getElem? (i := 1261) (by decide +kernel)) rfl, qWA_in (List.mem_of_getElem? (i := 107) (by decide +kernel)) rfl, ⟨by decide +kernel, by decide +kernel⟩, by decide +kernel⟩
theorem in_X7_failedCommand : Cond.instanceMethod yX7_failedCommand ∈ qWA := qWA_in (List.mem_of_getElem? (i := 1259) (by decide +kernel)) rfl
theorem se_X7_failedCommand : Cond.selects RX7 yX7_failedCommand yX7_failedCommand ∈ qWA := qWA_in (List.mem_of_getElem? (i := 1260) (by decide +kernel)) rfl
theorem mw_X7_failureReason : qMw yX7_failureReason cX7_failureReason 1 0 (some .char) := ⟨qWA_in (List.mem_of_getElem? (i := 1273) (by decide +kernel)) rfl, qWA_in (List.mem_of_getElem? (i := 107) (by decide +kernel)) rfl, ⟨by decide +kernel, by decide +kernel⟩, by decide +kernel⟩
theorem in_X7_failureReason : Cond.instanceMethod yX7_failureReason ∈ qWA := qWA_in (List.mem_of_getElem? (i := 1271) (by decide +kernel)) rfl
theorem se_X7_failureReason : Cond.selects RX7 yX7_failureReason yX7_failureReason ∈ qWA := qWA_in (List.mem_of_getElem? (i := 1272) (by decide +kernel)) rfl
theorem mw_X7_undo : qMw yX7_undo cX7_undo 1 0 (some .int) := ⟨qWA_in (List.mem_of_getElem? (i := 1280) (by decide +kernel)) rfl, qWA_in (List.mem_of_getElem? (i := 107) (by decide +kernel)) rfl, ⟨by decide +kernel, by decide +kernel⟩, by decide +kernel⟩
theorem in_X7_undo : Cond.instanceMethod yX7_undo ∈ qWA := qWA_in (List.mem_of_getElem? (i := 1278) (by decide +kernel)) rfl
theorem se_X7_undo : Cond.selects RX7 yX7_undo yX7_undo ∈ qWA := qWA_in (List.mem_of_getElem? (i := 1279) (by decide +kernel)) rfl
theorem mw_X7_save : qMw yX7_save cX7_save 1 0 (some .int) := ⟨qWA_in (List.mem_of_getElem? (i := 518) (by decide +kernel)) rfl, qWA_in (List.mem_of_getElem? (i := 107) (by decide +kernel)) rfl, ⟨by decide +kernel, by decide +kernel⟩, by decide +kernel⟩
theorem in_X7_save : Cond.instanceMethod yX7_save ∈ qWA := qWA_in (List.mem_of_getElem? (i := 516) (by decide +kernel)) rfl
theorem se_X7_save : Cond.selects RX7 yX7_save yX7_save ∈ qWA := qWA_in (List.mem_of_getElem? (i := 517) (by decide +kernel)) rfl
theorem mw_X7_restore : qMw yX7_restore cX7_restore 1 0 (some .int) := ⟨qWA_in (List.mem_of_getElem? (i := 1293) (by decide +kernel)) rfl, qWA_in (List.mem_of_getElem? (i := 107) (by decide +kernel)) rfl, ⟨by decide +kernel, by decide +kernel⟩, by decide +kernel⟩
theorem in_X7_restore : Cond.instanceMethod yX7_restore ∈ qWA := qWA_in (List.mem_of_getElem? (i := 1291) (by decide +kernel)) rfl
theorem se_X7_restore : Cond.selects RX7 yX7_restore yX7_restore ∈ qWA := qWA_in (List.mem_of_getElem? (i := 1292) (by decide +kernel)) rfl
theorem mw_X7_beginChange : qMw yX7_beginChange cX7_beginChange 1 0 none := ⟨qWA_in (List.mem_of_getElem? (i := 348) (by decide +kernel)) rfl, qWA_in (List.mem_of_getElem? (i := 107) (by decide +kernel)) rfl, ⟨by decide +kernel, by decide +kernel⟩, by decide +kernel⟩
theorem in_X7_beginChange : Cond.instanceMethod yX7_beginChange ∈ qWA := qWA_in (List.mem_of_getElem? (i := 347) (by decide +kernel)) rfl
theorem se_X7_beginChange : Cond.selects RX7 yX7_beginChange yX7_beginChange ∈ qWA := qWA_in (List.mem_of_getElem? (i := 0) (by decide +kernel)) rfl
theorem mw_X7_currentPlan : qMw yX7_currentPlan cX7_currentPlan 1 0 (some (.object "TaskLeveller$Plan")) := ⟨qWA_in (List.mem_of_getElem? (i := 370) (by decide +kernel)) rfl, qWA_in (List.mem_of_getElem? (i := 107) (by decide +kernel)) rfl, ⟨by decide +kernel, by decide +kernel⟩, by decide +kernel⟩
theorem in_X7_currentPlan : Cond.instanceMethod yX7_currentPlan ∈ qWA := qWA_in (List.mem_of_getElem? (i := 369) (by decide +kernel)) rfl
theorem se_X7_currentPlan : Cond.selects RX7 yX7_currentPlan yX7_currentPlan ∈ qWA := qWA_in (List.mem_of_getElem? (i := 4) (by decide +kernel)) rfl
theorem mw_X7_runCommand : qMw yX7_runCommand cX7_runCommand 6 1 (some .char) := ⟨qWA_in (List.mem_of_getElem? (i := 1217) (by decide +kernel)) rfl, qWA_in (List.mem_of_getElem? (i := 107) (by decide +kernel)) rfl, ⟨by decide +kernel, by decide +kernel⟩, by decide +kernel⟩
theorem in_X7_runCommand : Cond.instanceMethod yX7_runCommand ∈ qWA := qWA_in (List.mem_of_getElem? (i := 1216) (by decide +kernel)) rfl
theorem se_X7_runCommand : Cond.selects RX7 yX7_runCommand yX7_runCommand ∈ qWA := qWA_in (List.mem_of_getElem? (i := 57) (by decide +kernel)) rfl
theorem mw_X7_runAdding : qMw yX7_runAdding cX7_runAdding 6 4 (some .char) := ⟨qWA_in (List.mem_of_getElem? (i := 1238) (by decide +kernel)) rfl, qWA_in (List.mem_of_getElem? (i := 107) (by decide +kernel)) rfl, ⟨by decide +kernel, by decide +kernel⟩, by decide +kernel⟩
theorem in_X7_runAdding : Cond.instanceMethod yX7_runAdding ∈ qWA := qWA_in (List.mem_of_getElem? (i := 1237) (by decide +kernel)) rfl
theorem se_X7_runAdding : Cond.selects RX7 yX7_runAdding yX7_runAdding ∈ qWA := qWA_in (List.mem_of_getElem? (i := 60) (by decide +kernel)) rfl
theorem mw_X7_runSetting : qMw yX7_runSetting cX7_runSetting 4 4 (some .char) := ⟨qWA_in (List.mem_of_getElem? (i := 1241) (by decide +kernel)) rfl, qWA_in (List.mem_of_getElem? (i := 107) (by decide +kernel)) rfl, ⟨by decide +kernel, by decide +kernel⟩, by decide +kernel⟩
theorem st_X7_runSetting : Cond.static yX7_runSetting ∈ qWA := qWA_in (List.mem_of_getElem? (i := 1240) (by decide +kernel)) rfl
theorem mw_X7_markTrial : qMw yX7_markTrial cX7_markTrial 1 0 none := ⟨qWA_in (List.mem_of_getElem? (i := 1245) (by decide +kernel)) rfl, qWA_in (List.mem_of_getElem? (i := 107) (by decide +kernel)) rfl, ⟨by decide +kernel, by decide +kernel⟩, by decide +kernel⟩
theorem in_X7_markTrial : Cond.instanceMethod yX7_markTrial ∈ qWA := qWA_in (List.mem_of_getElem? (i := 1244) (by decide +kernel)) rfl
theorem se_X7_markTrial : Cond.selects RX7 yX7_markTrial yX7_markTrial ∈ qWA := qWA_in (List.mem_of_getElem? (i := 61) (by decide +kernel)) rfl
theorem mw_X7_isWorkedOn : qMw yX7_isWorkedOn cX7_isWorkedOn 4 2 (some .boolean) := ⟨qWA_in (List.mem_of_getElem? (i := 954) (by decide +kernel)) rfl, qWA_in (List.mem_of_getElem? (i := 107) (by decide +kernel)) rfl, ⟨by decide +kernel, by decide +kernel⟩, by decide +kernel⟩
theorem in_X7_isWorkedOn : Cond.instanceMethod yX7_isWorkedOn ∈ qWA := qWA_in (List.mem_of_getElem? (i := 953) (by decide +kernel)) rfl
theorem se_X7_isWorkedOn : Cond.selects RX7 yX7_isWorkedOn yX7_isWorkedOn ∈ qWA := qWA_in (List.mem_of_getElem? (i := 41) (by decide +kernel)) rfl
theorem mw_X7_driftOf : qMw yX7_driftOf cX7_driftOf 2 1 (some .int) := ⟨qWA_in (List.mem_of_getElem? (i := 1009) (by decide +kernel)) rfl, qWA_in (List.mem_of_getElem? (i := 107) (by decide +kernel)) rfl, ⟨by decide +kernel, by decide +kernel⟩, by decide +kernel⟩
theorem in_X7_driftOf : Cond.instanceMethod yX7_driftOf ∈ qWA := qWA_in (List.mem_of_getElem? (i := 1008) (by decide +kernel)) rfl
theorem se_X7_driftOf : Cond.selects RX7 yX7_driftOf yX7_driftOf ∈ qWA := qWA_in (List.mem_of_getElem? (i := 44) (by decide +kernel)) rfl
theorem mw_X7_sortingKey : qMw yX7_sortingKey cX7_sortingKey 2 2 (some .int) := ⟨qWA_in (List.mem_of_getElem? (i := 1030) (by decide +kernel)) rfl, qWA_in (List.mem_of_getElem? (i := 107) (by decide +kernel)) rfl, ⟨by decide +kernel, by decide +kernel⟩, by decide +kernel⟩
theorem st_X7_sortingKey : Cond.static yX7_sortingKey ∈ qWA := qWA_in (List.mem_of_getElem? (i := 1029) (by decide +kernel)) rfl
theorem mw_X7_taskAtRank : qMw yX7_taskAtRank cX7_taskAtRank 3 1 (some .int) := ⟨qWA_in (List.mem_of_getElem? (i := 1034) (by decide +kernel)) rfl, qWA_in (List.mem_of_getElem? (i := 107) (by decide +kernel)) rfl, ⟨by decide +kernel, by decide +kernel⟩, by decide +kernel⟩
theorem in_X7_taskAtRank : Cond.instanceMethod yX7_taskAtRank ∈ qWA := qWA_in (List.mem_of_getElem? (i := 1033) (by decide +kernel)) rfl
theorem se_X7_taskAtRank : Cond.selects RX7 yX7_taskAtRank yX7_taskAtRank ∈ qWA := qWA_in (List.mem_of_getElem? (i := 45) (by decide +kernel)) rfl
theorem mw_X7_countBefore : qMw yX7_countBefore cX7_countBefore 6 1 (some .int) := ⟨qWA_in (List.mem_of_getElem? (i := 1038) (by decide +kernel)) rfl, qWA_in (List.mem_of_getElem? (i := 107) (by decide +kernel)) rfl, ⟨by decide +kernel, by decide +kernel⟩, by decide +kernel⟩
theorem in_X7_countBefore : Cond.instanceMethod yX7_countBefore ∈ qWA := qWA_in (List.mem_of_getElem? (i := 1037) (by decide +kernel)) rfl
theorem se_X7_countBefore : Cond.selects RX7 yX7_countBefore yX7_countBefore ∈ qWA := qWA_in (List.mem_of_getElem? (i := 46) (by decide +kernel)) rfl
theorem mw_X7_startsAgree : qMw yX7_startsAgree cX7_startsAgree 4 0 (some .boolean) := ⟨qWA_in (List.mem_of_getElem? (i := 485) (by decide +kernel)) rfl, qWA_in (List.mem_of_getElem? (i := 107) (by decide +kernel)) rfl, ⟨by decide +kernel, by decide +kernel⟩, by decide +kernel⟩
theorem in_X7_startsAgree : Cond.instanceMethod yX7_startsAgree ∈ qWA := qWA_in (List.mem_of_getElem? (i := 484) (by decide +kernel)) rfl
theorem se_X7_startsAgree : Cond.selects RX7 yX7_startsAgree yX7_startsAgree ∈ qWA := qWA_in (List.mem_of_getElem? (i := 21) (by decide +kernel)) rfl
theorem mw_X7_dependenciesAgree : qMw yX7_dependenciesAgree cX7_dependenciesAgree 5 0 (some .boolean) := ⟨qWA_in (List.mem_of_getElem? (i := 490) (by decide +kernel)) rfl, qWA_in (List.mem_of_getElem? (i := 107) (by decide +kernel)) rfl, ⟨by decide +kernel, by decide +kernel⟩, by decide +kernel⟩
theorem in_X7_dependenciesAgree : Cond.instanceMethod yX7_dependenciesAgree ∈ qWA := qWA_in (List.mem_of_getElem? (i := 489) (by decide +kernel)) rfl
theorem se_X7_dependenciesAgree : Cond.selects RX7 yX7_dependenciesAgree yX7_dependenciesAgree ∈ qWA := qWA_in (List.mem_of_getElem? (i := 22) (by decide +kernel)) rfl
theorem mw_X7_workloadsAgree : qMw yX7_workloadsAgree cX7_workloadsAgree 3 0 (some .boolean) := ⟨qWA_in (List.mem_of_getElem? (i := 502) (by decide +kernel)) rfl, qWA_in (List.mem_of_getElem? (i := 107) (by decide +kernel)) rfl, ⟨by decide +kernel, by decide +kernel⟩, by decide +kernel⟩
theorem in_X7_workloadsAgree : Cond.instanceMethod yX7_workloadsAgree ∈ qWA := qWA_in (List.mem_of_getElem? (i := 501) (by decide +kernel)) rfl
theorem se_X7_workloadsAgree : Cond.selects RX7 yX7_workloadsAgree yX7_workloadsAgree ∈ qWA := qWA_in (List.mem_of_getElem? (i := 24) (by decide +kernel)) rfl
theorem mw_X7_requireTask : qMw yX7_requireTask cX7_requireTask 2 1 none := ⟨qWA_in (List.mem_of_getElem? (i := 783) (by decide +kernel)) rfl, qWA_in (List.mem_of_getElem? (i := 107) (by decide +kernel)) rfl, ⟨by decide +kernel, by decide +kernel⟩, by decide +kernel⟩
theorem in_X7_requireTask : Cond.instanceMethod yX7_requireTask ∈ qWA := qWA_in (List.mem_of_getElem? (i := 782) (by decide +kernel)) rfl
theorem se_X7_requireTask : Cond.selects RX7 yX7_requireTask yX7_requireTask ∈ qWA := qWA_in (List.mem_of_getElem? (i := 40) (by decide +kernel)) rfl
theorem mw_X7_requireResource : qMw yX7_requireResource cX7_requireResource 1 1 none := ⟨qWA_in (List.mem_of_getElem? (i := 814) (by decide +kernel)) rfl, qWA_in (List.mem_of_getElem? (i := 107) (by decide +kernel)) rfl, ⟨by decide +kernel, by decide +kernel⟩, by decide +kernel⟩
theorem st_X7_requireResource : Cond.static yX7_requireResource ∈ qWA := qWA_in (List.mem_of_getElem? (i := 813) (by decide +kernel)) rfl
theorem mw_X7_requireDay : qMw yX7_requireDay cX7_requireDay 1 1 none := ⟨qWA_in (List.mem_of_getElem? (i := 941) (by decide +kernel)) rfl, qWA_in (List.mem_of_getElem? (i := 107) (by decide +kernel)) rfl, ⟨by decide +kernel, by decide +kernel⟩, by decide +kernel⟩
theorem st_X7_requireDay : Cond.static yX7_requireDay ∈ qWA := qWA_in (List.mem_of_getElem? (i := 940) (by decide +kernel)) rfl
theorem mw_X7_requireBaselineStart : qMw yX7_requireBaselineStart cX7_requireBaselineStart 2 1 none := ⟨qWA_in (List.mem_of_getElem? (i := 993) (by decide +kernel)) rfl, qWA_in (List.mem_of_getElem? (i := 107) (by decide +kernel)) rfl, ⟨by decide +kernel, by decide +kernel⟩, by decide +kernel⟩
theorem in_X7_requireBaselineStart : Cond.instanceMethod yX7_requireBaselineStart ∈ qWA := qWA_in (List.mem_of_getElem? (i := 992) (by decide +kernel)) rfl
theorem se_X7_requireBaselineStart : Cond.selects RX7 yX7_requireBaselineStart yX7_requireBaselineStart ∈ qWA := qWA_in (List.mem_of_getElem? (i := 42) (by decide +kernel)) rfl
theorem mw_X7_requireFailure : qMw yX7_requireFailure cX7_requireFailure 1 0 none := ⟨qWA_in (List.mem_of_getElem? (i := 1265) (by decide +kernel)) rfl, qWA_in (List.mem_of_getElem? (i := 107) (by decide +kernel)) rfl, ⟨by decide +kernel, by decide +kernel⟩, by decide +kernel⟩
theorem in_X7_requireFailure : Cond.instanceMethod yX7_requireFailure ∈ qWA := qWA_in (List.mem_of_getElem? (i := 1264) (by decide +kernel)) rfl
theorem se_X7_requireFailure : Cond.selects RX7 yX7_requireFailure yX7_requireFailure ∈ qWA := qWA_in (List.mem_of_getElem? (i := 62) (by decide +kernel)) rfl
theorem mw_X7_refuse : qMw yX7_refuse cX7_refuse 1 1 none := ⟨qWA_in (List.mem_of_getElem? (i := 538) (by decide +kernel)) rfl, qWA_in (List.mem_of_getElem? (i := 107) (by decide +kernel)) rfl, ⟨by decide +kernel, by decide +kernel⟩, by decide +kernel⟩
theorem st_X7_refuse : Cond.static yX7_refuse ∈ qWA := qWA_in (List.mem_of_getElem? (i := 537) (by decide +kernel)) rfl
theorem mw_X7_isWithin : qMw yX7_isWithin cX7_isWithin 3 3 (some .boolean) := ⟨qWA_in (List.mem_of_getElem? (i := 535) (by decide +kernel)) rfl, qWA_in (List.mem_of_getElem? (i := 107) (by decide +kernel)) rfl, ⟨by decide +kernel, by decide +kernel⟩, by decide +kernel⟩
theorem st_X7_isWithin : Cond.static yX7_isWithin ∈ qWA := qWA_in (List.mem_of_getElem? (i := 534) (by decide +kernel)) rfl
theorem mw_X7_hasBit : qMw yX7_hasBit cX7_hasBit 2 2 (some .boolean) := ⟨qWA_in (List.mem_of_getElem? (i := 385) (by decide +kernel)) rfl, qWA_in (List.mem_of_getElem? (i := 107) (by decide +kernel)) rfl, ⟨by decide +kernel, by decide +kernel⟩, by decide +kernel⟩
theorem st_X7_hasBit : Cond.static yX7_hasBit ∈ qWA := qWA_in (List.mem_of_getElem? (i := 384) (by decide +kernel)) rfl
theorem mw_X7_at : qMw yX7_at cX7_at 2 2 (some .int) := ⟨qWA_in (List.mem_of_getElem? (i := 388) (by decide +kernel)) rfl, qWA_in (List.mem_of_getElem? (i := 107) (by decide +kernel)) rfl, ⟨by decide +kernel, by decide +kernel⟩, by decide +kernel⟩
theorem st_X7_at : Cond.static yX7_at ∈ qWA := qWA_in (List.mem_of_getElem? (i := 387) (by decide +kernel)) rfl
theorem mw_X7_put : qMw yX7_put cX7_put 3 3 none := ⟨qWA_in (List.mem_of_getElem? (i := 391) (by decide +kernel)) rfl, qWA_in (List.mem_of_getElem? (i := 107) (by decide +kernel)) rfl, ⟨by decide +kernel, by decide +kernel⟩, by decide +kernel⟩
theorem st_X7_put : Cond.static yX7_put ∈ qWA := qWA_in (List.mem_of_getElem? (i := 390) (by decide +kernel)) rfl
theorem mw_X7_charAt : qMw yX7_charAt cX7_charAt 2 2 (some .char) := ⟨qWA_in (List.mem_of_getElem? (i := 1114) (by decide +kernel)) rfl, qWA_in (List.mem_of_getElem? (i := 107) (by decide +kernel)) rfl, ⟨by decide +kernel, by decide +kernel⟩, by decide +kernel⟩
theorem st_X7_charAt : Cond.static yX7_charAt ∈ qWA := qWA_in (List.mem_of_getElem? (i := 1113) (by decide +kernel)) rfl
theorem mw_X7_copyRow : qMw yX7_copyRow cX7_copyRow 3 2 none := ⟨qWA_in (List.mem_of_getElem? (i := 363) (by decide +kernel)) rfl, qWA_in (List.mem_of_getElem? (i := 107) (by decide +kernel)) rfl, ⟨by decide +kernel, by decide +kernel⟩, by decide +kernel⟩
theorem st_X7_copyRow : Cond.static yX7_copyRow ∈ qWA := qWA_in (List.mem_of_getElem? (i := 362) (by decide +kernel)) rfl
theorem mw_X7_fillRow : qMw yX7_fillRow cX7_fillRow 3 2 none := ⟨qWA_in (List.mem_of_getElem? (i := 147) (by decide +kernel)) rfl, qWA_in (List.mem_of_getElem? (i := 107) (by decide +kernel)) rfl, ⟨by decide +kernel, by decide +kernel⟩, by decide +kernel⟩
theorem st_X7_fillRow : Cond.static yX7_fillRow ∈ qWA := qWA_in (List.mem_of_getElem? (i := 146) (by decide +kernel)) rfl
theorem mw_X7_closeGap : qMw yX7_closeGap cX7_closeGap 3 2 none := ⟨qWA_in (List.mem_of_getElem? (i := 702) (by decide +kernel)) rfl, qWA_in (List.mem_of_getElem? (i := 107) (by decide +kernel)) rfl, ⟨by decide +kernel, by decide +kernel⟩, by decide +kernel⟩
theorem st_X7_closeGap : Cond.static yX7_closeGap ∈ qWA := qWA_in (List.mem_of_getElem? (i := 701) (by decide +kernel)) rfl
theorem mw_X8_thrown : qMw yX8_thrown cX8_thrown 1 0 (some .int) := ⟨qWA_in (List.mem_of_getElem? (i := 1378) (by decide +kernel)) rfl, qWA_in (List.mem_of_getElem? (i := 113) (by decide +kernel)) rfl, ⟨by decide +kernel, by decide +kernel⟩, by decide +kernel⟩
theorem in_X8_thrown : Cond.instanceMethod yX8_thrown ∈ qWA := qWA_in (List.mem_of_getElem? (i := 1376) (by decide +kernel)) rfl
theorem se_X8_thrown : Cond.selects RX8 yX8_thrown yX8_thrown ∈ qWA := qWA_in (List.mem_of_getElem? (i := 1377) (by decide +kernel)) rfl
theorem mw_X8_isIn : qMw yX8_isIn cX8_isIn 3 3 (some .boolean) := ⟨qWA_in (List.mem_of_getElem? (i := 1416) (by decide +kernel)) rfl, qWA_in (List.mem_of_getElem? (i := 113) (by decide +kernel)) rfl, ⟨by decide +kernel, by decide +kernel⟩, by decide +kernel⟩
theorem st_X8_isIn : Cond.static yX8_isIn ∈ qWA := qWA_in (List.mem_of_getElem? (i := 1415) (by decide +kernel)) rfl
theorem mw_X8_copies : qMw yX8_copies cX8_copies 5 4 none := ⟨qWA_in (List.mem_of_getElem? (i := 1393) (by decide +kernel)) rfl, qWA_in (List.mem_of_getElem? (i := 113) (by decide +kernel)) rfl, ⟨by decide +kernel, by decide +kernel⟩, by decide +kernel⟩
theorem st_X8_copies : Cond.static yX8_copies ∈ qWA := qWA_in (List.mem_of_getElem? (i := 1392) (by decide +kernel)) rfl
theorem mw_X8_holds : qMw yX8_holds cX8_holds 4 3 (some .boolean) := ⟨qWA_in (List.mem_of_getElem? (i := 1390) (by decide +kernel)) rfl, qWA_in (List.mem_of_getElem? (i := 113) (by decide +kernel)) rfl, ⟨by decide +kernel, by decide +kernel⟩, by decide +kernel⟩
theorem in_X8_holds : Cond.instanceMethod yX8_holds ∈ qWA := qWA_in (List.mem_of_getElem? (i := 1389) (by decide +kernel)) rfl
theorem se_X8_holds : Cond.selects RX8 yX8_holds yX8_holds ∈ qWA := qWA_in (List.mem_of_getElem? (i := 66) (by decide +kernel)) rfl
theorem mw_X8_goes : qMw yX8_goes cX8_goes 2 1 (some .boolean) := ⟨qWA_in (List.mem_of_getElem? (i := 1386) (by decide +kernel)) rfl, qWA_in (List.mem_of_getElem? (i := 113) (by decide +kernel)) rfl, ⟨by decide +kernel, by decide +kernel⟩, by decide +kernel⟩
theorem in_X8_goes : Cond.instanceMethod yX8_goes ∈ qWA := qWA_in (List.mem_of_getElem? (i := 1385) (by decide +kernel)) rfl
theorem se_X8_goes : Cond.selects RX8 yX8_goes yX8_goes ∈ qWA := qWA_in (List.mem_of_getElem? (i := 65) (by decide +kernel)) rfl
theorem mw_X8_begins : qMw yX8_begins cX8_begins 1 0 none := ⟨qWA_in (List.mem_of_getElem? (i := 1409) (by decide +kernel)) rfl, qWA_in (List.mem_of_getElem? (i := 113) (by decide +kernel)) rfl, ⟨by decide +kernel, by decide +kernel⟩, by decide +kernel⟩
theorem in_X8_begins : Cond.instanceMethod yX8_begins ∈ qWA := qWA_in (List.mem_of_getElem? (i := 1408) (by decide +kernel)) rfl
theorem se_X8_begins : Cond.selects RX8 yX8_begins yX8_begins ∈ qWA := qWA_in (List.mem_of_getElem? (i := 67) (by decide +kernel)) rfl
theorem mw_X8_remembers : qMw yX8_remembers cX8_remembers 2 0 none := ⟨qWA_in (List.mem_of_getElem? (i := 1430) (by decide +kernel)) rfl, qWA_in (List.mem_of_getElem? (i := 113) (by decide +kernel)) rfl, ⟨by decide +kernel, by decide +kernel⟩, by decide +kernel⟩
theorem in_X8_remembers : Cond.instanceMethod yX8_remembers ∈ qWA := qWA_in (List.mem_of_getElem? (i := 1429) (by decide +kernel)) rfl
theorem se_X8_remembers : Cond.selects RX8 yX8_remembers yX8_remembers ∈ qWA := qWA_in (List.mem_of_getElem? (i := 70) (by decide +kernel)) rfl
theorem mw_X8_ends : qMw yX8_ends cX8_ends 2 1 (some .int) := ⟨qWA_in (List.mem_of_getElem? (i := 1426) (by decide +kernel)) rfl, qWA_in (List.mem_of_getElem? (i := 113) (by decide +kernel)) rfl, ⟨by decide +kernel, by decide +kernel⟩, by decide +kernel⟩
theorem in_X8_ends : Cond.instanceMethod yX8_ends ∈ qWA := qWA_in (List.mem_of_getElem? (i := 1425) (by decide +kernel)) rfl
theorem se_X8_ends : Cond.selects RX8 yX8_ends yX8_ends ∈ qWA := qWA_in (List.mem_of_getElem? (i := 69) (by decide +kernel)) rfl
theorem mw_X8_undo : qMw yX8_undo cX8_undo 1 0 (some .int) := ⟨qWA_in (List.mem_of_getElem? (i := 1382) (by decide +kernel)) rfl, qWA_in (List.mem_of_getElem? (i := 113) (by decide +kernel)) rfl, ⟨by decide +kernel, by decide +kernel⟩, by decide +kernel⟩
theorem in_X8_undo : Cond.instanceMethod yX8_undo ∈ qWA := qWA_in (List.mem_of_getElem? (i := 1380) (by decide +kernel)) rfl
theorem se_X8_undo : Cond.selects RX8 yX8_undo yX8_undo ∈ qWA := qWA_in (List.mem_of_getElem? (i := 1381) (by decide +kernel)) rfl
theorem mw_X8_save : qMw yX8_save cX8_save 1 0 (some .int) := ⟨qWA_in (List.mem_of_getElem? (i := 1397) (by decide +kernel)) rfl, qWA_in (List.mem_of_getElem? (i := 113) (by decide +kernel)) rfl, ⟨by decide +kernel, by decide +kernel⟩, by decide +kernel⟩
theorem in_X8_save : Cond.instanceMethod yX8_save ∈ qWA := qWA_in (List.mem_of_getElem? (i := 1395) (by decide +kernel)) rfl
theorem se_X8_save : Cond.selects RX8 yX8_save yX8_save ∈ qWA := qWA_in (List.mem_of_getElem? (i := 1396) (by decide +kernel)) rfl
theorem mw_X8_restore : qMw yX8_restore cX8_restore 1 0 (some .int) := ⟨qWA_in (List.mem_of_getElem? (i := 1401) (by decide +kernel)) rfl, qWA_in (List.mem_of_getElem? (i := 113) (by decide +kernel)) rfl, ⟨by decide +kernel, by decide +kernel⟩, by decide +kernel⟩
theorem in_X8_restore : Cond.instanceMethod yX8_restore ∈ qWA := qWA_in (List.mem_of_getElem? (i := 1399) (by decide +kernel)) rfl
theorem se_X8_restore : Cond.selects RX8 yX8_restore yX8_restore ∈ qWA := qWA_in (List.mem_of_getElem? (i := 1400) (by decide +kernel)) rfl
theorem mw_X8_isTask : qMw yX8_isTask cX8_isTask 2 1 (some .boolean) := ⟨qWA_in (List.mem_of_getElem? (i := 1442) (by decide +kernel)) rfl, qWA_in (List.mem_of_getElem? (i := 113) (by decide +kernel)) rfl, ⟨by decide +kernel, by decide +kernel⟩, by decide +kernel⟩
theorem in_X8_isTask : Cond.instanceMethod yX8_isTask ∈ qWA := qWA_in (List.mem_of_getElem? (i := 1441) (by decide +kernel)) rfl
theorem se_X8_isTask : Cond.selects RX8 yX8_isTask yX8_isTask ∈ qWA := qWA_in (List.mem_of_getElem? (i := 72) (by decide +kernel)) rfl
theorem mw_X8_isResource : qMw yX8_isResource cX8_isResource 1 1 (some .boolean) := ⟨qWA_in (List.mem_of_getElem? (i := 1419) (by decide +kernel)) rfl, qWA_in (List.mem_of_getElem? (i := 113) (by decide +kernel)) rfl, ⟨by decide +kernel, by decide +kernel⟩, by decide +kernel⟩
theorem st_X8_isResource : Cond.static yX8_isResource ∈ qWA := qWA_in (List.mem_of_getElem? (i := 1418) (by decide +kernel)) rfl
theorem mw_X8_taskAt : qMw yX8_taskAt cX8_taskAt 1 1 (some .int) := ⟨qWA_in (List.mem_of_getElem? (i := 1422) (by decide +kernel)) rfl, qWA_in (List.mem_of_getElem? (i := 113) (by decide +kernel)) rfl, ⟨by decide +kernel, by decide +kernel⟩, by decide +kernel⟩
theorem st_X8_taskAt : Cond.static yX8_taskAt ∈ qWA := qWA_in (List.mem_of_getElem? (i := 1421) (by decide +kernel)) rfl
theorem mw_X8_of : qMw yX8_of cX8_of 3 2 (some .int) := ⟨qWA_in (List.mem_of_getElem? (i := 1462) (by decide +kernel)) rfl, qWA_in (List.mem_of_getElem? (i := 113) (by decide +kernel)) rfl, ⟨by decide +kernel, by decide +kernel⟩, by decide +kernel⟩
theorem in_X8_of : Cond.instanceMethod yX8_of ∈ qWA := qWA_in (List.mem_of_getElem? (i := 1461) (by decide +kernel)) rfl
theorem se_X8_of : Cond.selects RX8 yX8_of yX8_of ∈ qWA := qWA_in (List.mem_of_getElem? (i := 76) (by decide +kernel)) rfl
theorem mw_X8_isNeeded : qMw yX8_isNeeded cX8_isNeeded 3 2 (some .boolean) := ⟨qWA_in (List.mem_of_getElem? (i := 1466) (by decide +kernel)) rfl, qWA_in (List.mem_of_getElem? (i := 113) (by decide +kernel)) rfl, ⟨by decide +kernel, by decide +kernel⟩, by decide +kernel⟩
theorem in_X8_isNeeded : Cond.instanceMethod yX8_isNeeded ∈ qWA := qWA_in (List.mem_of_getElem? (i := 1465) (by decide +kernel)) rfl
theorem se_X8_isNeeded : Cond.selects RX8 yX8_isNeeded yX8_isNeeded ∈ qWA := qWA_in (List.mem_of_getElem? (i := 77) (by decide +kernel)) rfl
theorem mw_X8_needsOf : qMw yX8_needsOf cX8_needsOf 5 1 (some .int) := ⟨qWA_in (List.mem_of_getElem? (i := 1458) (by decide +kernel)) rfl, qWA_in (List.mem_of_getElem? (i := 113) (by decide +kernel)) rfl, ⟨by decide +kernel, by decide +kernel⟩, by decide +kernel⟩
theorem in_X8_needsOf : Cond.instanceMethod yX8_needsOf ∈ qWA := qWA_in (List.mem_of_getElem? (i := 1457) (by decide +kernel)) rfl
theorem se_X8_needsOf : Cond.selects RX8 yX8_needsOf yX8_needsOf ∈ qWA := qWA_in (List.mem_of_getElem? (i := 75) (by decide +kernel)) rfl
theorem mw_X8_doesDepend : qMw yX8_doesDepend cX8_doesDepend 3 2 (some .boolean) := ⟨qWA_in (List.mem_of_getElem? (i := 1454) (by decide +kernel)) rfl, qWA_in (List.mem_of_getElem? (i := 113) (by decide +kernel)) rfl, ⟨by decide +kernel, by decide +kernel⟩, by decide +kernel⟩
theorem in_X8_doesDepend : Cond.instanceMethod yX8_doesDepend ∈ qWA := qWA_in (List.mem_of_getElem? (i := 1453) (by decide +kernel)) rfl
theorem se_X8_doesDepend : Cond.selects RX8 yX8_doesDepend yX8_doesDepend ∈ qWA := qWA_in (List.mem_of_getElem? (i := 74) (by decide +kernel)) rfl
theorem mw_X8_adds : qMw yX8_adds cX8_adds 7 4 (some .int) := ⟨qWA_in (List.mem_of_getElem? (i := 1413) (by decide +kernel)) rfl, qWA_in (List.mem_of_getElem? (i := 113) (by decide +kernel)) rfl, ⟨by decide +kernel, by decide +kernel⟩, by decide +kernel⟩
theorem in_X8_adds : Cond.instanceMethod yX8_adds ∈ qWA := qWA_in (List.mem_of_getElem? (i := 1412) (by decide +kernel)) rfl
theorem se_X8_adds : Cond.selects RX8 yX8_adds yX8_adds ∈ qWA := qWA_in (List.mem_of_getElem? (i := 68) (by decide +kernel)) rfl
theorem mw_X8_addTask : qMw yX8_addTask cX8_addTask 5 4 (some .int) := ⟨qWA_in (List.mem_of_getElem? (i := 1405) (by decide +kernel)) rfl, qWA_in (List.mem_of_getElem? (i := 113) (by decide +kernel)) rfl, ⟨by decide +kernel, by decide +kernel⟩, by decide +kernel⟩
theorem in_X8_addTask : Cond.instanceMethod yX8_addTask ∈ qWA := qWA_in (List.mem_of_getElem? (i := 1403) (by decide +kernel)) rfl
theorem se_X8_addTask : Cond.selects RX8 yX8_addTask yX8_addTask ∈ qWA := qWA_in (List.mem_of_getElem? (i := 1404) (by decide +kernel)) rfl
theorem mw_X8_removes : qMw yX8_removes cX8_removes 5 1 (some .int) := ⟨qWA_in (List.mem_of_getElem? (i := 1438) (by decide +kernel)) rfl, qWA_in (List.mem_of_getElem? (i := 113) (by decide +kernel)) rfl, ⟨by decide +kernel, by decide +kernel⟩, by decide +kernel⟩
theorem in_X8_removes : Cond.instanceMethod yX8_removes ∈ qWA := qWA_in (List.mem_of_getElem? (i := 1437) (by decide +kernel)) rfl
theorem se_X8_removes : Cond.selects RX8 yX8_removes yX8_removes ∈ qWA := qWA_in (List.mem_of_getElem? (i := 71) (by decide +kernel)) rfl
theorem mw_X8_removeTask : qMw yX8_removeTask cX8_removeTask 2 1 (some .int) := ⟨qWA_in (List.mem_of_getElem? (i := 1434) (by decide +kernel)) rfl, qWA_in (List.mem_of_getElem? (i := 113) (by decide +kernel)) rfl, ⟨by decide +kernel, by decide +kernel⟩, by decide +kernel⟩
theorem in_X8_removeTask : Cond.instanceMethod yX8_removeTask ∈ qWA := qWA_in (List.mem_of_getElem? (i := 1432) (by decide +kernel)) rfl
theorem se_X8_removeTask : Cond.selects RX8 yX8_removeTask yX8_removeTask ∈ qWA := qWA_in (List.mem_of_getElem? (i := 1433) (by decide +kernel)) rfl
theorem mw_X8_links : qMw yX8_links cX8_links 5 2 (some .int) := ⟨qWA_in (List.mem_of_getElem? (i := 1450) (by decide +kernel)) rfl, qWA_in (List.mem_of_getElem? (i := 113) (by decide +kernel)) rfl, ⟨by decide +kernel, by decide +kernel⟩, by decide +kernel⟩
theorem in_X8_links : Cond.instanceMethod yX8_links ∈ qWA := qWA_in (List.mem_of_getElem? (i := 1449) (by decide +kernel)) rfl
theorem se_X8_links : Cond.selects RX8 yX8_links yX8_links ∈ qWA := qWA_in (List.mem_of_getElem? (i := 73) (by decide +kernel)) rfl
theorem mw_X8_addDependency : qMw yX8_addDependency cX8_addDependency 4 2 (some .boolean) := ⟨qWA_in (List.mem_of_getElem? (i := 1446) (by decide +kernel)) rfl, qWA_in (List.mem_of_getElem? (i := 113) (by decide +kernel)) rfl, ⟨by decide +kernel, by decide +kernel⟩, by decide +kernel⟩
theorem in_X8_addDependency : Cond.instanceMethod yX8_addDependency ∈ qWA := qWA_in (List.mem_of_getElem? (i := 1444) (by decide +kernel)) rfl
theorem se_X8_addDependency : Cond.selects RX8 yX8_addDependency yX8_addDependency ∈ qWA := qWA_in (List.mem_of_getElem? (i := 1445) (by decide +kernel)) rfl
theorem mw_X8_unlinks : qMw yX8_unlinks cX8_unlinks 4 2 (some .int) := ⟨qWA_in (List.mem_of_getElem? (i := 1474) (by decide +kernel)) rfl, qWA_in (List.mem_of_getElem? (i := 113) (by decide +kernel)) rfl, ⟨by decide +kernel, by decide +kernel⟩, by decide +kernel⟩
theorem in_X8_unlinks : Cond.instanceMethod yX8_unlinks ∈ qWA := qWA_in (List.mem_of_getElem? (i := 1473) (by decide +kernel)) rfl
theorem se_X8_unlinks : Cond.selects RX8 yX8_unlinks yX8_unlinks ∈ qWA := qWA_in (List.mem_of_getElem? (i := 78) (by decide +kernel)) rfl
theorem mw_X8_removeDependency : qMw yX8_removeDependency cX8_removeDependency 3 2 (some .boolean) := ⟨qWA_in (List.mem_of_getElem? (i := 1470) (by decide +kernel)) rfl, qWA_in (List.mem_of_getElem? (i := 113) (by decide +kernel)) rfl, ⟨by decide +kernel, by decide +kernel⟩, by decide +kernel⟩
theorem in_X8_removeDependency : Cond.instanceMethod yX8_removeDependency ∈ qWA := qWA_in (List.mem_of_getElem? (i := 1468) (by decide +kernel)) rfl
theorem se_X8_removeDependency : Cond.selects RX8 yX8_removeDependency yX8_removeDependency ∈ qWA := qWA_in (List.mem_of_getElem? (i := 1469) (by decide +kernel)) rfl
theorem mw_X8_sets : qMw yX8_sets cX8_sets 7 5 (some .int) := ⟨qWA_in (List.mem_of_getElem? (i := 1482) (by decide +kernel)) rfl, qWA_in (List.mem_of_getElem? (i := 113) (by decide +kernel)) rfl, ⟨by decide +kernel, by decide +kernel⟩, by decide +kernel⟩
theorem in_X8_sets : Cond.instanceMethod yX8_sets ∈ qWA := qWA_in (List.mem_of_getElem? (i := 1481) (by decide +kernel)) rfl
theorem se_X8_sets : Cond.selects RX8 yX8_sets yX8_sets ∈ qWA := qWA_in (List.mem_of_getElem? (i := 79) (by decide +kernel)) rfl
theorem mw_X8_setDuration : qMw yX8_setDuration cX8_setDuration 3 2 (some .int) := ⟨qWA_in (List.mem_of_getElem? (i := 1478) (by decide +kernel)) rfl, qWA_in (List.mem_of_getElem? (i := 113) (by decide +kernel)) rfl, ⟨by decide +kernel, by decide +kernel⟩, by decide +kernel⟩
theorem in_X8_setDuration : Cond.instanceMethod yX8_setDuration ∈ qWA := qWA_in (List.mem_of_getElem? (i := 1476) (by decide +kernel)) rfl
theorem se_X8_setDuration : Cond.selects RX8 yX8_setDuration yX8_setDuration ∈ qWA := qWA_in (List.mem_of_getElem? (i := 1477) (by decide +kernel)) rfl
theorem mw_X8_setRelease : qMw yX8_setRelease cX8_setRelease 3 2 (some .int) := ⟨qWA_in (List.mem_of_getElem? (i := 1486) (by decide +kernel)) rfl, qWA_in (List.mem_of_getElem? (i := 113) (by decide +kernel)) rfl, ⟨by decide +kernel, by decide +kernel⟩, by decide +kernel⟩
theorem in_X8_setRelease : Cond.instanceMethod yX8_setRelease ∈ qWA := qWA_in (List.mem_of_getElem? (i := 1484) (by decide +kernel)) rfl
theorem se_X8_setRelease : Cond.selects RX8 yX8_setRelease yX8_setRelease ∈ qWA := qWA_in (List.mem_of_getElem? (i := 1485) (by decide +kernel)) rfl
theorem mw_X8_limits : qMw yX8_limits cX8_limits 4 2 (some .int) := ⟨qWA_in (List.mem_of_getElem? (i := 1494) (by decide +kernel)) rfl, qWA_in (List.mem_of_getElem? (i := 113) (by decide +kernel)) rfl, ⟨by decide +kernel, by decide +kernel⟩, by decide +kernel⟩
theorem in_X8_limits : Cond.instanceMethod yX8_limits ∈ qWA := qWA_in (List.mem_of_getElem? (i := 1493) (by decide +kernel)) rfl
theorem se_X8_limits : Cond.selects RX8 yX8_limits yX8_limits ∈ qWA := qWA_in (List.mem_of_getElem? (i := 80) (by decide +kernel)) rfl
theorem mw_X8_setLimit : qMw yX8_setLimit cX8_setLimit 3 2 (some .int) := ⟨qWA_in (List.mem_of_getElem? (i := 1490) (by decide +kernel)) rfl, qWA_in (List.mem_of_getElem? (i := 113) (by decide +kernel)) rfl, ⟨by decide +kernel, by decide +kernel⟩, by decide +kernel⟩
theorem in_X8_setLimit : Cond.instanceMethod yX8_setLimit ∈ qWA := qWA_in (List.mem_of_getElem? (i := 1488) (by decide +kernel)) rfl
theorem se_X8_setLimit : Cond.selects RX8 yX8_setLimit yX8_setLimit ∈ qWA := qWA_in (List.mem_of_getElem? (i := 1489) (by decide +kernel)) rfl
theorem mw_X8_marks : qMw yX8_marks cX8_marks 2 0 (some .int) := ⟨qWA_in (List.mem_of_getElem? (i := 1502) (by decide +kernel)) rfl, qWA_in (List.mem_of_getElem? (i := 113) (by decide +kernel)) rfl, ⟨by decide +kernel, by decide +kernel⟩, by decide +kernel⟩
theorem in_X8_marks : Cond.instanceMethod yX8_marks ∈ qWA := qWA_in (List.mem_of_getElem? (i := 1501) (by decide +kernel)) rfl
theorem se_X8_marks : Cond.selects RX8 yX8_marks yX8_marks ∈ qWA := qWA_in (List.mem_of_getElem? (i := 81) (by decide +kernel)) rfl
theorem mw_X8_takeBaseline : qMw yX8_takeBaseline cX8_takeBaseline 1 0 (some .int) := ⟨qWA_in (List.mem_of_getElem? (i := 1498) (by decide +kernel)) rfl, qWA_in (List.mem_of_getElem? (i := 113) (by decide +kernel)) rfl, ⟨by decide +kernel, by decide +kernel⟩, by decide +kernel⟩
theorem in_X8_takeBaseline : Cond.instanceMethod yX8_takeBaseline ∈ qWA := qWA_in (List.mem_of_getElem? (i := 1496) (by decide +kernel)) rfl
theorem se_X8_takeBaseline : Cond.selects RX8 yX8_takeBaseline yX8_takeBaseline ∈ qWA := qWA_in (List.mem_of_getElem? (i := 1497) (by decide +kernel)) rfl
theorem mw_X8_lastOf : qMw yX8_lastOf cX8_lastOf 4 1 (some .int) := ⟨qWA_in (List.mem_of_getElem? (i := 1519) (by decide +kernel)) rfl, qWA_in (List.mem_of_getElem? (i := 113) (by decide +kernel)) rfl, ⟨by decide +kernel, by decide +kernel⟩, by decide +kernel⟩
theorem in_X8_lastOf : Cond.instanceMethod yX8_lastOf ∈ qWA := qWA_in (List.mem_of_getElem? (i := 1518) (by decide +kernel)) rfl
theorem se_X8_lastOf : Cond.selects RX8 yX8_lastOf yX8_lastOf ∈ qWA := qWA_in (List.mem_of_getElem? (i := 85) (by decide +kernel)) rfl
theorem mw_X8_soonest : qMw yX8_soonest cX8_soonest 5 2 (some .int) := ⟨qWA_in (List.mem_of_getElem? (i := 1514) (by decide +kernel)) rfl, qWA_in (List.mem_of_getElem? (i := 113) (by decide +kernel)) rfl, ⟨by decide +kernel, by decide +kernel⟩, by decide +kernel⟩
theorem in_X8_soonest : Cond.instanceMethod yX8_soonest ∈ qWA := qWA_in (List.mem_of_getElem? (i := 1513) (by decide +kernel)) rfl
theorem se_X8_soonest : Cond.selects RX8 yX8_soonest yX8_soonest ∈ qWA := qWA_in (List.mem_of_getElem? (i := 84) (by decide +kernel)) rfl
theorem mw_X8_starts : qMw yX8_starts cX8_starts 4 0 none := ⟨qWA_in (List.mem_of_getElem? (i := 1510) (by decide +kernel)) rfl, qWA_in (List.mem_of_getElem? (i := 113) (by decide +kernel)) rfl, ⟨by decide +kernel, by decide +kernel⟩, by decide +kernel⟩
theorem in_X8_starts : Cond.instanceMethod yX8_starts ∈ qWA := qWA_in (List.mem_of_getElem? (i := 1509) (by decide +kernel)) rfl
theorem se_X8_starts : Cond.selects RX8 yX8_starts yX8_starts ∈ qWA := qWA_in (List.mem_of_getElem? (i := 83) (by decide +kernel)) rfl
theorem mw_X8_puts : qMw yX8_puts cX8_puts 3 1 none := ⟨qWA_in (List.mem_of_getElem? (i := 1523) (by decide +kernel)) rfl, qWA_in (List.mem_of_getElem? (i := 113) (by decide +kernel)) rfl, ⟨by decide +kernel, by decide +kernel⟩, by decide +kernel⟩
theorem in_X8_puts : Cond.instanceMethod yX8_puts ∈ qWA := qWA_in (List.mem_of_getElem? (i := 1522) (by decide +kernel)) rfl
theorem se_X8_puts : Cond.selects RX8 yX8_puts yX8_puts ∈ qWA := qWA_in (List.mem_of_getElem? (i := 86) (by decide +kernel)) rfl
theorem mw_X8_hasRoom : qMw yX8_hasRoom cX8_hasRoom 5 2 (some .boolean) := ⟨qWA_in (List.mem_of_getElem? (i := 1528) (by decide +kernel)) rfl, qWA_in (List.mem_of_getElem? (i := 113) (by decide +kernel)) rfl, ⟨by decide +kernel, by decide +kernel⟩, by decide +kernel⟩
theorem in_X8_hasRoom : Cond.instanceMethod yX8_hasRoom ∈ qWA := qWA_in (List.mem_of_getElem? (i := 1527) (by decide +kernel)) rfl
theorem se_X8_hasRoom : Cond.selects RX8 yX8_hasRoom yX8_hasRoom ∈ qWA := qWA_in (List.mem_of_getElem? (i := 87) (by decide +kernel)) rfl
theorem mw_X8_levels : qMw yX8_levels cX8_levels 6 0 none := ⟨qWA_in (List.mem_of_getElem? (i := 1506) (by decide +kernel)) rfl, qWA_in (List.mem_of_getElem? (i := 113) (by decide +kernel)) rfl, ⟨by decide +kernel, by decide +kernel⟩, by decide +kernel⟩
theorem in_X8_levels : Cond.instanceMethod yX8_levels ∈ qWA := qWA_in (List.mem_of_getElem? (i := 1505) (by decide +kernel)) rfl
theorem se_X8_levels : Cond.selects RX8 yX8_levels yX8_levels ∈ qWA := qWA_in (List.mem_of_getElem? (i := 82) (by decide +kernel)) rfl
theorem mw_X8_taskCount : qMw yX8_taskCount cX8_taskCount 1 0 (some .int) := ⟨qWA_in (List.mem_of_getElem? (i := 1532) (by decide +kernel)) rfl, qWA_in (List.mem_of_getElem? (i := 113) (by decide +kernel)) rfl, ⟨by decide +kernel, by decide +kernel⟩, by decide +kernel⟩
theorem in_X8_taskCount : Cond.instanceMethod yX8_taskCount ∈ qWA := qWA_in (List.mem_of_getElem? (i := 1530) (by decide +kernel)) rfl
theorem se_X8_taskCount : Cond.selects RX8 yX8_taskCount yX8_taskCount ∈ qWA := qWA_in (List.mem_of_getElem? (i := 1531) (by decide +kernel)) rfl
theorem mw_X8_asks : qMw yX8_asks cX8_asks 3 2 (some .int) := ⟨qWA_in (List.mem_of_getElem? (i := 1540) (by decide +kernel)) rfl, qWA_in (List.mem_of_getElem? (i := 113) (by decide +kernel)) rfl, ⟨by decide +kernel, by decide +kernel⟩, by decide +kernel⟩
theorem in_X8_asks : Cond.instanceMethod yX8_asks ∈ qWA := qWA_in (List.mem_of_getElem? (i := 1539) (by decide +kernel)) rfl
theorem se_X8_asks : Cond.selects RX8 yX8_asks yX8_asks ∈ qWA := qWA_in (List.mem_of_getElem? (i := 88) (by decide +kernel)) rfl
theorem mw_X8_duration : qMw yX8_duration cX8_duration 2 1 (some .int) := ⟨qWA_in (List.mem_of_getElem? (i := 1536) (by decide +kernel)) rfl, qWA_in (List.mem_of_getElem? (i := 113) (by decide +kernel)) rfl, ⟨by decide +kernel, by decide +kernel⟩, by decide +kernel⟩
theorem in_X8_duration : Cond.instanceMethod yX8_duration ∈ qWA := qWA_in (List.mem_of_getElem? (i := 1534) (by decide +kernel)) rfl
theorem se_X8_duration : Cond.selects RX8 yX8_duration yX8_duration ∈ qWA := qWA_in (List.mem_of_getElem? (i := 1535) (by decide +kernel)) rfl
theorem mw_X8_resource : qMw yX8_resource cX8_resource 2 1 (some .int) := ⟨qWA_in (List.mem_of_getElem? (i := 1544) (by decide +kernel)) rfl, qWA_in (List.mem_of_getElem? (i := 113) (by decide +kernel)) rfl, ⟨by decide +kernel, by decide +kernel⟩, by decide +kernel⟩
theorem in_X8_resource : Cond.instanceMethod yX8_resource ∈ qWA := qWA_in (List.mem_of_getElem? (i := 1542) (by decide +kernel)) rfl
theorem se_X8_resource : Cond.selects RX8 yX8_resource yX8_resource ∈ qWA := qWA_in (List.mem_of_getElem? (i := 1543) (by decide +kernel)) rfl
theorem mw_X8_demand : qMw yX8_demand cX8_demand 2 1 (some .int) := ⟨qWA_in (List.mem_of_getElem? (i := 1548) (by decide +kernel)) rfl, qWA_in (List.mem_of_getElem? (i := 113) (by decide +kernel)) rfl, ⟨by decide +kernel, by decide +kernel⟩, by decide +kernel⟩
theorem in_X8_demand : Cond.instanceMethod yX8_demand ∈ qWA := qWA_in (List.mem_of_getElem? (i := 1546) (by decide +kernel)) rfl
theorem se_X8_demand : Cond.selects RX8 yX8_demand yX8_demand ∈ qWA := qWA_in (List.mem_of_getElem? (i := 1547) (by decide +kernel)) rfl
theorem mw_X8_release : qMw yX8_release cX8_release 2 1 (some .int) := ⟨qWA_in (List.mem_of_getElem? (i := 1552) (by decide +kernel)) rfl, qWA_in (List.mem_of_getElem? (i := 113) (by decide +kernel)) rfl, ⟨by decide +kernel, by decide +kernel⟩, by decide +kernel⟩
theorem in_X8_release : Cond.instanceMethod yX8_release ∈ qWA := qWA_in (List.mem_of_getElem? (i := 1550) (by decide +kernel)) rfl
theorem se_X8_release : Cond.selects RX8 yX8_release yX8_release ∈ qWA := qWA_in (List.mem_of_getElem? (i := 1551) (by decide +kernel)) rfl
theorem mw_X8_limit : qMw yX8_limit cX8_limit 2 1 (some .int) := ⟨qWA_in (List.mem_of_getElem? (i := 1556) (by decide +kernel)) rfl, qWA_in (List.mem_of_getElem? (i := 113) (by decide +kernel)) rfl, ⟨by decide +kernel, by decide +kernel⟩, by decide +kernel⟩
theorem in_X8_limit : Cond.instanceMethod yX8_limit ∈ qWA := qWA_in (List.mem_of_getElem? (i := 1554) (by decide +kernel)) rfl
theorem se_X8_limit : Cond.selects RX8 yX8_limit yX8_limit ∈ qWA := qWA_in (List.mem_of_getElem? (i := 1555) (by decide +kernel)) rfl
theorem mw_X8_dependsDirectly : qMw yX8_dependsDirectly cX8_dependsDirectly 3 2 (some .boolean) := ⟨qWA_in (List.mem_of_getElem? (i := 1560) (by decide +kernel)) rfl, qWA_in (List.mem_of_getElem? (i := 113) (by decide +kernel)) rfl, ⟨by decide +kernel, by decide +kernel⟩, by decide +kernel⟩
theorem in_X8_dependsDirectly : Cond.instanceMethod yX8_dependsDirectly ∈ qWA := qWA_in (List.mem_of_getElem? (i := 1558) (by decide +kernel)) rfl
theorem se_X8_dependsDirectly : Cond.selects RX8 yX8_dependsDirectly yX8_dependsDirectly ∈ qWA := qWA_in (List.mem_of_getElem? (i := 1559) (by decide +kernel)) rfl
theorem mw_X8_isBehind : qMw yX8_isBehind cX8_isBehind 3 2 (some .boolean) := ⟨qWA_in (List.mem_of_getElem? (i := 1568) (by decide +kernel)) rfl, qWA_in (List.mem_of_getElem? (i := 113) (by decide +kernel)) rfl, ⟨by decide +kernel, by decide +kernel⟩, by decide +kernel⟩
theorem in_X8_isBehind : Cond.instanceMethod yX8_isBehind ∈ qWA := qWA_in (List.mem_of_getElem? (i := 1567) (by decide +kernel)) rfl
theorem se_X8_isBehind : Cond.selects RX8 yX8_isBehind yX8_isBehind ∈ qWA := qWA_in (List.mem_of_getElem? (i := 89) (by decide +kernel)) rfl
theorem mw_X8_depends : qMw yX8_depends cX8_depends 3 2 (some .boolean) := ⟨qWA_in (List.mem_of_getElem? (i := 1564) (by decide +kernel)) rfl, qWA_in (List.mem_of_getElem? (i := 113) (by decide +kernel)) rfl, ⟨by decide +kernel, by decide +kernel⟩, by decide +kernel⟩
theorem in_X8_depends : Cond.instanceMethod yX8_depends ∈ qWA := qWA_in (List.mem_of_getElem? (i := 1562) (by decide +kernel)) rfl
theorem se_X8_depends : Cond.selects RX8 yX8_depends yX8_depends ∈ qWA := qWA_in (List.mem_of_getElem? (i := 1563) (by decide +kernel)) rfl
theorem mw_X8_dependsByClosure : qMw yX8_dependsByClosure cX8_dependsByClosure 3 2 (some .boolean) := ⟨qWA_in (List.mem_of_getElem? (i := 1572) (by decide +kernel)) rfl, qWA_in (List.mem_of_getElem? (i := 113) (by decide +kernel)) rfl, ⟨by decide +kernel, by decide +kernel⟩, by decide +kernel⟩
theorem in_X8_dependsByClosure : Cond.instanceMethod yX8_dependsByClosure ∈ qWA := qWA_in (List.mem_of_getElem? (i := 1570) (by decide +kernel)) rfl
theorem se_X8_dependsByClosure : Cond.selects RX8 yX8_dependsByClosure yX8_dependsByClosure ∈ qWA := qWA_in (List.mem_of_getElem? (i := 1571) (by decide +kernel)) rfl
theorem mw_X8_neededCount : qMw yX8_neededCount cX8_neededCount 2 1 (some .int) := ⟨qWA_in (List.mem_of_getElem? (i := 1576) (by decide +kernel)) rfl, qWA_in (List.mem_of_getElem? (i := 113) (by decide +kernel)) rfl, ⟨by decide +kernel, by decide +kernel⟩, by decide +kernel⟩
theorem in_X8_neededCount : Cond.instanceMethod yX8_neededCount ∈ qWA := qWA_in (List.mem_of_getElem? (i := 1574) (by decide +kernel)) rfl
theorem se_X8_neededCount : Cond.selects RX8 yX8_neededCount yX8_neededCount ∈ qWA := qWA_in (List.mem_of_getElem? (i := 1575) (by decide +kernel)) rfl
theorem mw_X8_dependentCount : qMw yX8_dependentCount cX8_dependentCount 4 1 (some .int) := ⟨qWA_in (List.mem_of_getElem? (i := 1581) (by decide +kernel)) rfl, qWA_in (List.mem_of_getElem? (i := 113) (by decide +kernel)) rfl, ⟨by decide +kernel, by decide +kernel⟩, by decide +kernel⟩
theorem in_X8_dependentCount : Cond.instanceMethod yX8_dependentCount ∈ qWA := qWA_in (List.mem_of_getElem? (i := 1579) (by decide +kernel)) rfl
theorem se_X8_dependentCount : Cond.selects RX8 yX8_dependentCount yX8_dependentCount ∈ qWA := qWA_in (List.mem_of_getElem? (i := 1580) (by decide +kernel)) rfl
theorem mw_X8_taskInOrder : qMw yX8_taskInOrder cX8_taskInOrder 7 1 (some .int) := ⟨qWA_in (List.mem_of_getElem? (i := 1585) (by decide +kernel)) rfl, qWA_in (List.mem_of_getElem? (i := 113) (by decide +kernel)) rfl, ⟨by decide +kernel, by decide +kernel⟩, by decide +kernel⟩
theorem in_X8_taskInOrder : Cond.instanceMethod yX8_taskInOrder ∈ qWA := qWA_in (List.mem_of_getElem? (i := 1583) (by decide +kernel)) rfl
theorem se_X8_taskInOrder : Cond.selects RX8 yX8_taskInOrder yX8_taskInOrder ∈ qWA := qWA_in (List.mem_of_getElem? (i := 1584) (by decide +kernel)) rfl
theorem mw_X8_early : qMw yX8_early cX8_early 2 1 (some .int) := ⟨qWA_in (List.mem_of_getElem? (i := 1593) (by decide +kernel)) rfl, qWA_in (List.mem_of_getElem? (i := 113) (by decide +kernel)) rfl, ⟨by decide +kernel, by decide +kernel⟩, by decide +kernel⟩
theorem in_X8_early : Cond.instanceMethod yX8_early ∈ qWA := qWA_in (List.mem_of_getElem? (i := 1592) (by decide +kernel)) rfl
theorem se_X8_early : Cond.selects RX8 yX8_early yX8_early ∈ qWA := qWA_in (List.mem_of_getElem? (i := 90) (by decide +kernel)) rfl
theorem mw_X8_earliestStart : qMw yX8_earliestStart cX8_earliestStart 2 1 (some .int) := ⟨qWA_in (List.mem_of_getElem? (i := 1589) (by decide +kernel)) rfl, qWA_in (List.mem_of_getElem? (i := 113) (by decide +kernel)) rfl, ⟨by decide +kernel, by decide +kernel⟩, by decide +kernel⟩
theorem in_X8_earliestStart : Cond.instanceMethod yX8_earliestStart ∈ qWA := qWA_in (List.mem_of_getElem? (i := 1587) (by decide +kernel)) rfl
theorem se_X8_earliestStart : Cond.selects RX8 yX8_earliestStart yX8_earliestStart ∈ qWA := qWA_in (List.mem_of_getElem? (i := 1588) (by decide +kernel)) rfl
theorem mw_X8_earliestStartByRounds : qMw yX8_earliestStartByRounds cX8_earliestStartByRounds 2 1 (some .int) := ⟨qWA_in (List.mem_of_getElem? (i := 1597) (by decide +kernel)) rfl, qWA_in (List.mem_of_getElem? (i := 113) (by decide +kernel)) rfl, ⟨by decide +kernel, by decide +kernel⟩, by decide +kernel⟩
theorem in_X8_earliestStartByRounds : Cond.instanceMethod yX8_earliestStartByRounds ∈ qWA := qWA_in (List.mem_of_getElem? (i := 1595) (by decide +kernel)) rfl
theorem se_X8_earliestStartByRounds : Cond.selects RX8 yX8_earliestStartByRounds yX8_earliestStartByRounds ∈ qWA := qWA_in (List.mem_of_getElem? (i := 1596) (by decide +kernel)) rfl
theorem mw_X8_latestStart : qMw yX8_latestStart cX8_latestStart 2 1 (some .int) := ⟨qWA_in (List.mem_of_getElem? (i := 1601) (by decide +kernel)) rfl, qWA_in (List.mem_of_getElem? (i := 113) (by decide +kernel)) rfl, ⟨by decide +kernel, by decide +kernel⟩, by decide +kernel⟩
theorem in_X8_latestStart : Cond.instanceMethod yX8_latestStart ∈ qWA := qWA_in (List.mem_of_getElem? (i := 1599) (by decide +kernel)) rfl
theorem se_X8_latestStart : Cond.selects RX8 yX8_latestStart yX8_latestStart ∈ qWA := qWA_in (List.mem_of_getElem? (i := 1600) (by decide +kernel)) rfl
theorem mw_X8_slack : qMw yX8_slack cX8_slack 2 1 (some .int) := ⟨qWA_in (List.mem_of_getElem? (i := 1605) (by decide +kernel)) rfl, qWA_in (List.mem_of_getElem? (i := 113) (by decide +kernel)) rfl, ⟨by decide +kernel, by decide +kernel⟩, by decide +kernel⟩
theorem in_X8_slack : Cond.instanceMethod yX8_slack ∈ qWA := qWA_in (List.mem_of_getElem? (i := 1603) (by decide +kernel)) rfl
theorem se_X8_slack : Cond.selects RX8 yX8_slack yX8_slack ∈ qWA := qWA_in (List.mem_of_getElem? (i := 1604) (by decide +kernel)) rfl
theorem mw_X8_isCritical : qMw yX8_isCritical cX8_isCritical 2 1 (some .boolean) := ⟨qWA_in (List.mem_of_getElem? (i := 1609) (by decide +kernel)) rfl, qWA_in (List.mem_of_getElem? (i := 113) (by decide +kernel)) rfl, ⟨by decide +kernel, by decide +kernel⟩, by decide +kernel⟩
theorem in_X8_isCritical : Cond.instanceMethod yX8_isCritical ∈ qWA := qWA_in (List.mem_of_getElem? (i := 1607) (by decide +kernel)) rfl
theorem se_X8_isCritical : Cond.selects RX8 yX8_isCritical yX8_isCritical ∈ qWA := qWA_in (List.mem_of_getElem? (i := 1608) (by decide +kernel)) rfl
theorem mw_X8_projectLength : qMw yX8_projectLength cX8_projectLength 1 0 (some .int) := ⟨qWA_in (List.mem_of_getElem? (i := 1613) (by decide +kernel)) rfl, qWA_in (List.mem_of_getElem? (i := 113) (by decide +kernel)) rfl, ⟨by decide +kernel, by decide +kernel⟩, by decide +kernel⟩
theorem in_X8_projectLength : Cond.instanceMethod yX8_projectLength ∈ qWA := qWA_in (List.mem_of_getElem? (i := 1611) (by decide +kernel)) rfl
theorem se_X8_projectLength : Cond.selects RX8 yX8_projectLength yX8_projectLength ∈ qWA := qWA_in (List.mem_of_getElem? (i := 1612) (by decide +kernel)) rfl
theorem mw_X8_criticalCount : qMw yX8_criticalCount cX8_criticalCount 3 0 (some .int) := ⟨qWA_in (List.mem_of_getElem? (i := 1617) (by decide +kernel)) rfl, qWA_in (List.mem_of_getElem? (i := 113) (by decide +kernel)) rfl, ⟨by decide +kernel, by decide +kernel⟩, by decide +kernel⟩
theorem in_X8_criticalCount : Cond.instanceMethod yX8_criticalCount ∈ qWA := qWA_in (List.mem_of_getElem? (i := 1615) (by decide +kernel)) rfl
theorem se_X8_criticalCount : Cond.selects RX8 yX8_criticalCount yX8_criticalCount ∈ qWA := qWA_in (List.mem_of_getElem? (i := 1616) (by decide +kernel)) rfl
theorem mw_X8_lastTask : qMw yX8_lastTask cX8_lastTask 4 0 (some .int) := ⟨qWA_in (List.mem_of_getElem? (i := 1621) (by decide +kernel)) rfl, qWA_in (List.mem_of_getElem? (i := 113) (by decide +kernel)) rfl, ⟨by decide +kernel, by decide +kernel⟩, by decide +kernel⟩
theorem in_X8_lastTask : Cond.instanceMethod yX8_lastTask ∈ qWA := qWA_in (List.mem_of_getElem? (i := 1619) (by decide +kernel)) rfl
theorem se_X8_lastTask : Cond.selects RX8 yX8_lastTask yX8_lastTask ∈ qWA := qWA_in (List.mem_of_getElem? (i := 1620) (by decide +kernel)) rfl
theorem mw_X8_levelledStart : qMw yX8_levelledStart cX8_levelledStart 2 1 (some .int) := ⟨qWA_in (List.mem_of_getElem? (i := 1625) (by decide +kernel)) rfl, qWA_in (List.mem_of_getElem? (i := 113) (by decide +kernel)) rfl, ⟨by decide +kernel, by decide +kernel⟩, by decide +kernel⟩
theorem in_X8_levelledStart : Cond.instanceMethod yX8_levelledStart ∈ qWA := qWA_in (List.mem_of_getElem? (i := 1623) (by decide +kernel)) rfl
theorem se_X8_levelledStart : Cond.selects RX8 yX8_levelledStart yX8_levelledStart ∈ qWA := qWA_in (List.mem_of_getElem? (i := 1624) (by decide +kernel)) rfl
theorem mw_X8_levelledLength : qMw yX8_levelledLength cX8_levelledLength 1 0 (some .int) := ⟨qWA_in (List.mem_of_getElem? (i := 1629) (by decide +kernel)) rfl, qWA_in (List.mem_of_getElem? (i := 113) (by decide +kernel)) rfl, ⟨by decide +kernel, by decide +kernel⟩, by decide +kernel⟩
theorem in_X8_levelledLength : Cond.instanceMethod yX8_levelledLength ∈ qWA := qWA_in (List.mem_of_getElem? (i := 1627) (by decide +kernel)) rfl
theorem se_X8_levelledLength : Cond.selects RX8 yX8_levelledLength yX8_levelledLength ∈ qWA := qWA_in (List.mem_of_getElem? (i := 1628) (by decide +kernel)) rfl
theorem mw_X8_usageOn : qMw yX8_usageOn cX8_usageOn 3 2 (some .int) := ⟨qWA_in (List.mem_of_getElem? (i := 1637) (by decide +kernel)) rfl, qWA_in (List.mem_of_getElem? (i := 113) (by decide +kernel)) rfl, ⟨by decide +kernel, by decide +kernel⟩, by decide +kernel⟩
theorem in_X8_usageOn : Cond.instanceMethod yX8_usageOn ∈ qWA := qWA_in (List.mem_of_getElem? (i := 1636) (by decide +kernel)) rfl
theorem se_X8_usageOn : Cond.selects RX8 yX8_usageOn yX8_usageOn ∈ qWA := qWA_in (List.mem_of_getElem? (i := 91) (by decide +kernel)) rfl
theorem mw_X8_usage : qMw yX8_usage cX8_usage 3 2 (some .int) := ⟨qWA_in (List.mem_of_getElem? (i := 1633) (by decide +kernel)) rfl, qWA_in (List.mem_of_getElem? (i := 113) (by decide +kernel)) rfl, ⟨by decide +kernel, by decide +kernel⟩, by decide +kernel⟩
theorem in_X8_usage : Cond.instanceMethod yX8_usage ∈ qWA := qWA_in (List.mem_of_getElem? (i := 1631) (by decide +kernel)) rfl
theorem se_X8_usage : Cond.selects RX8 yX8_usage yX8_usage ∈ qWA := qWA_in (List.mem_of_getElem? (i := 1632) (by decide +kernel)) rfl
theorem mw_X8_usageByTasks : qMw yX8_usageByTasks cX8_usageByTasks 3 2 (some .int) := ⟨qWA_in (List.mem_of_getElem? (i := 1641) (by decide +kernel)) rfl, qWA_in (List.mem_of_getElem? (i := 113) (by decide +kernel)) rfl, ⟨by decide +kernel, by decide +kernel⟩, by decide +kernel⟩
theorem in_X8_usageByTasks : Cond.instanceMethod yX8_usageByTasks ∈ qWA := qWA_in (List.mem_of_getElem? (i := 1639) (by decide +kernel)) rfl
theorem se_X8_usageByTasks : Cond.selects RX8 yX8_usageByTasks yX8_usageByTasks ∈ qWA := qWA_in (List.mem_of_getElem? (i := 1640) (by decide +kernel)) rfl
theorem mw_X8_peakUsage : qMw yX8_peakUsage cX8_peakUsage 4 1 (some .int) := ⟨qWA_in (List.mem_of_getElem? (i := 1645) (by decide +kernel)) rfl, qWA_in (List.mem_of_getElem? (i := 113) (by decide +kernel)) rfl, ⟨by decide +kernel, by decide +kernel⟩, by decide +kernel⟩
theorem in_X8_peakUsage : Cond.instanceMethod yX8_peakUsage ∈ qWA := qWA_in (List.mem_of_getElem? (i := 1643) (by decide +kernel)) rfl
theorem se_X8_peakUsage : Cond.selects RX8 yX8_peakUsage yX8_peakUsage ∈ qWA := qWA_in (List.mem_of_getElem? (i := 1644) (by decide +kernel)) rfl
theorem mw_X8_tasksOn : qMw yX8_tasksOn cX8_tasksOn 4 1 (some .int) := ⟨qWA_in (List.mem_of_getElem? (i := 1649) (by decide +kernel)) rfl, qWA_in (List.mem_of_getElem? (i := 113) (by decide +kernel)) rfl, ⟨by decide +kernel, by decide +kernel⟩, by decide +kernel⟩
theorem in_X8_tasksOn : Cond.instanceMethod yX8_tasksOn ∈ qWA := qWA_in (List.mem_of_getElem? (i := 1647) (by decide +kernel)) rfl
theorem se_X8_tasksOn : Cond.selects RX8 yX8_tasksOn yX8_tasksOn ∈ qWA := qWA_in (List.mem_of_getElem? (i := 1648) (by decide +kernel)) rfl
theorem mw_X8_work : qMw yX8_work cX8_work 4 1 (some .int) := ⟨qWA_in (List.mem_of_getElem? (i := 1657) (by decide +kernel)) rfl, qWA_in (List.mem_of_getElem? (i := 113) (by decide +kernel)) rfl, ⟨by decide +kernel, by decide +kernel⟩, by decide +kernel⟩
theorem in_X8_work : Cond.instanceMethod yX8_work ∈ qWA := qWA_in (List.mem_of_getElem? (i := 1656) (by decide +kernel)) rfl
theorem se_X8_work : Cond.selects RX8 yX8_work yX8_work ∈ qWA := qWA_in (List.mem_of_getElem? (i := 92) (by decide +kernel)) rfl
theorem mw_X8_workload : qMw yX8_workload cX8_workload 2 1 (some .int) := ⟨qWA_in (List.mem_of_getElem? (i := 1653) (by decide +kernel)) rfl, qWA_in (List.mem_of_getElem? (i := 113) (by decide +kernel)) rfl, ⟨by decide +kernel, by decide +kernel⟩, by decide +kernel⟩
theorem in_X8_workload : Cond.instanceMethod yX8_workload ∈ qWA := qWA_in (List.mem_of_getElem? (i := 1651) (by decide +kernel)) rfl
theorem se_X8_workload : Cond.selects RX8 yX8_workload yX8_workload ∈ qWA := qWA_in (List.mem_of_getElem? (i := 1652) (by decide +kernel)) rfl
theorem mw_X8_workloadByDays : qMw yX8_workloadByDays cX8_workloadByDays 2 1 (some .int) := ⟨qWA_in (List.mem_of_getElem? (i := 1661) (by decide +kernel)) rfl, qWA_in (List.mem_of_getElem? (i := 113) (by decide +kernel)) rfl, ⟨by decide +kernel, by decide +kernel⟩, by decide +kernel⟩
theorem in_X8_workloadByDays : Cond.instanceMethod yX8_workloadByDays ∈ qWA := qWA_in (List.mem_of_getElem? (i := 1659) (by decide +kernel)) rfl
theorem se_X8_workloadByDays : Cond.selects RX8 yX8_workloadByDays yX8_workloadByDays ∈ qWA := qWA_in (List.mem_of_getElem? (i := 1660) (by decide +kernel)) rfl
theorem mw_X8_hasBaseline : qMw yX8_hasBaseline cX8_hasBaseline 1 0 (some .boolean) := ⟨qWA_in (List.mem_of_getElem? (i := 1665) (by decide +kernel)) rfl, qWA_in (List.mem_of_getElem? (i := 113) (by decide +kernel)) rfl, ⟨by decide +kernel, by decide +kernel⟩, by decide +kernel⟩
theorem in_X8_hasBaseline : Cond.instanceMethod yX8_hasBaseline ∈ qWA := qWA_in (List.mem_of_getElem? (i := 1663) (by decide +kernel)) rfl
theorem se_X8_hasBaseline : Cond.selects RX8 yX8_hasBaseline yX8_hasBaseline ∈ qWA := qWA_in (List.mem_of_getElem? (i := 1664) (by decide +kernel)) rfl
theorem mw_X8_baselineStart : qMw yX8_baselineStart cX8_baselineStart 2 1 (some .int) := ⟨qWA_in (List.mem_of_getElem? (i := 1669) (by decide +kernel)) rfl, qWA_in (List.mem_of_getElem? (i := 113) (by decide +kernel)) rfl, ⟨by decide +kernel, by decide +kernel⟩, by decide +kernel⟩
theorem in_X8_baselineStart : Cond.instanceMethod yX8_baselineStart ∈ qWA := qWA_in (List.mem_of_getElem? (i := 1667) (by decide +kernel)) rfl
theorem se_X8_baselineStart : Cond.selects RX8 yX8_baselineStart yX8_baselineStart ∈ qWA := qWA_in (List.mem_of_getElem? (i := 1668) (by decide +kernel)) rfl
theorem mw_X8_drift : qMw yX8_drift cX8_drift 2 1 (some .int) := ⟨qWA_in (List.mem_of_getElem? (i := 1673) (by decide +kernel)) rfl, qWA_in (List.mem_of_getElem? (i := 113) (by decide +kernel)) rfl, ⟨by decide +kernel, by decide +kernel⟩, by decide +kernel⟩
theorem in_X8_drift : Cond.instanceMethod yX8_drift ∈ qWA := qWA_in (List.mem_of_getElem? (i := 1671) (by decide +kernel)) rfl
theorem se_X8_drift : Cond.selects RX8 yX8_drift yX8_drift ∈ qWA := qWA_in (List.mem_of_getElem? (i := 1672) (by decide +kernel)) rfl
theorem mw_X8_totalDrift : qMw yX8_totalDrift cX8_totalDrift 3 0 (some .int) := ⟨qWA_in (List.mem_of_getElem? (i := 1677) (by decide +kernel)) rfl, qWA_in (List.mem_of_getElem? (i := 113) (by decide +kernel)) rfl, ⟨by decide +kernel, by decide +kernel⟩, by decide +kernel⟩
theorem in_X8_totalDrift : Cond.instanceMethod yX8_totalDrift ∈ qWA := qWA_in (List.mem_of_getElem? (i := 1675) (by decide +kernel)) rfl
theorem se_X8_totalDrift : Cond.selects RX8 yX8_totalDrift yX8_totalDrift ∈ qWA := qWA_in (List.mem_of_getElem? (i := 1676) (by decide +kernel)) rfl
theorem mw_X8_taskBySlack : qMw yX8_taskBySlack cX8_taskBySlack 8 1 (some .int) := ⟨qWA_in (List.mem_of_getElem? (i := 1682) (by decide +kernel)) rfl, qWA_in (List.mem_of_getElem? (i := 113) (by decide +kernel)) rfl, ⟨by decide +kernel, by decide +kernel⟩, by decide +kernel⟩
theorem in_X8_taskBySlack : Cond.instanceMethod yX8_taskBySlack ∈ qWA := qWA_in (List.mem_of_getElem? (i := 1680) (by decide +kernel)) rfl
theorem se_X8_taskBySlack : Cond.selects RX8 yX8_taskBySlack yX8_taskBySlack ∈ qWA := qWA_in (List.mem_of_getElem? (i := 1681) (by decide +kernel)) rfl
theorem mw_X8_taskByStart : qMw yX8_taskByStart cX8_taskByStart 8 1 (some .int) := ⟨qWA_in (List.mem_of_getElem? (i := 1686) (by decide +kernel)) rfl, qWA_in (List.mem_of_getElem? (i := 113) (by decide +kernel)) rfl, ⟨by decide +kernel, by decide +kernel⟩, by decide +kernel⟩
theorem in_X8_taskByStart : Cond.instanceMethod yX8_taskByStart ∈ qWA := qWA_in (List.mem_of_getElem? (i := 1684) (by decide +kernel)) rfl
theorem se_X8_taskByStart : Cond.selects RX8 yX8_taskByStart yX8_taskByStart ∈ qWA := qWA_in (List.mem_of_getElem? (i := 1685) (by decide +kernel)) rfl
theorem mw_X8_meanSlack : qMw yX8_meanSlack cX8_meanSlack 3 0 (some .double) := ⟨qWA_in (List.mem_of_getElem? (i := 1690) (by decide +kernel)) rfl, qWA_in (List.mem_of_getElem? (i := 113) (by decide +kernel)) rfl, ⟨by decide +kernel, by decide +kernel⟩, by decide +kernel⟩
theorem in_X8_meanSlack : Cond.instanceMethod yX8_meanSlack ∈ qWA := qWA_in (List.mem_of_getElem? (i := 1688) (by decide +kernel)) rfl
theorem se_X8_meanSlack : Cond.selects RX8 yX8_meanSlack yX8_meanSlack ∈ qWA := qWA_in (List.mem_of_getElem? (i := 1689) (by decide +kernel)) rfl
theorem mw_X8_utilization : qMw yX8_utilization cX8_utilization 3 1 (some .float) := ⟨qWA_in (List.mem_of_getElem? (i := 1694) (by decide +kernel)) rfl, qWA_in (List.mem_of_getElem? (i := 113) (by decide +kernel)) rfl, ⟨by decide +kernel, by decide +kernel⟩, by decide +kernel⟩
theorem in_X8_utilization : Cond.instanceMethod yX8_utilization ∈ qWA := qWA_in (List.mem_of_getElem? (i := 1692) (by decide +kernel)) rfl
theorem se_X8_utilization : Cond.selects RX8 yX8_utilization yX8_utilization ∈ qWA := qWA_in (List.mem_of_getElem? (i := 1693) (by decide +kernel)) rfl
theorem mw_X8_isConsistent : qMw yX8_isConsistent cX8_isConsistent 1 0 (some .boolean) := ⟨qWA_in (List.mem_of_getElem? (i := 1698) (by decide +kernel)) rfl, qWA_in (List.mem_of_getElem? (i := 113) (by decide +kernel)) rfl, ⟨by decide +kernel, by decide +kernel⟩, by decide +kernel⟩
theorem in_X8_isConsistent : Cond.instanceMethod yX8_isConsistent ∈ qWA := qWA_in (List.mem_of_getElem? (i := 1696) (by decide +kernel)) rfl
theorem se_X8_isConsistent : Cond.selects RX8 yX8_isConsistent yX8_isConsistent ∈ qWA := qWA_in (List.mem_of_getElem? (i := 1697) (by decide +kernel)) rfl
theorem mw_X8_put : qMw yX8_put cX8_put 3 2 (some .int) := ⟨qWA_in (List.mem_of_getElem? (i := 1710) (by decide +kernel)) rfl, qWA_in (List.mem_of_getElem? (i := 113) (by decide +kernel)) rfl, ⟨by decide +kernel, by decide +kernel⟩, by decide +kernel⟩
theorem in_X8_put : Cond.instanceMethod yX8_put ∈ qWA := qWA_in (List.mem_of_getElem? (i := 1709) (by decide +kernel)) rfl
theorem se_X8_put : Cond.selects RX8 yX8_put yX8_put ∈ qWA := qWA_in (List.mem_of_getElem? (i := 94) (by decide +kernel)) rfl
theorem mw_X8_writesNumber : qMw yX8_writesNumber cX8_writesNumber 6 2 (some .int) := ⟨qWA_in (List.mem_of_getElem? (i := 1706) (by decide +kernel)) rfl, qWA_in (List.mem_of_getElem? (i := 113) (by decide +kernel)) rfl, ⟨by decide +kernel, by decide +kernel⟩, by decide +kernel⟩
theorem in_X8_writesNumber : Cond.instanceMethod yX8_writesNumber ∈ qWA := qWA_in (List.mem_of_getElem? (i := 1705) (by decide +kernel)) rfl
theorem se_X8_writesNumber : Cond.selects RX8 yX8_writesNumber yX8_writesNumber ∈ qWA := qWA_in (List.mem_of_getElem? (i := 93) (by decide +kernel)) rfl
theorem mw_X8_renderTask : qMw yX8_renderTask cX8_renderTask 4 1 (some .int) := ⟨qWA_in (List.mem_of_getElem? (i := 1702) (by decide +kernel)) rfl, qWA_in (List.mem_of_getElem? (i := 113) (by decide +kernel)) rfl, ⟨by decide +kernel, by decide +kernel⟩, by decide +kernel⟩
theorem in_X8_renderTask : Cond.instanceMethod yX8_renderTask ∈ qWA := qWA_in (List.mem_of_getElem? (i := 1700) (by decide +kernel)) rfl
theorem se_X8_renderTask : Cond.selects RX8 yX8_renderTask yX8_renderTask ∈ qWA := qWA_in (List.mem_of_getElem? (i := 1701) (by decide +kernel)) rfl
theorem mw_X8_renderUsage : qMw yX8_renderUsage cX8_renderUsage 4 1 (some .int) := ⟨qWA_in (List.mem_of_getElem? (i := 1714) (by decide +kernel)) rfl, qWA_in (List.mem_of_getElem? (i := 113) (by decide +kernel)) rfl, ⟨by decide +kernel, by decide +kernel⟩, by decide +kernel⟩
theorem in_X8_renderUsage : Cond.instanceMethod yX8_renderUsage ∈ qWA := qWA_in (List.mem_of_getElem? (i := 1712) (by decide +kernel)) rfl
theorem se_X8_renderUsage : Cond.selects RX8 yX8_renderUsage yX8_renderUsage ∈ qWA := qWA_in (List.mem_of_getElem? (i := 1713) (by decide +kernel)) rfl
theorem mw_X8_outputAt : qMw yX8_outputAt cX8_outputAt 2 1 (some .char) := ⟨qWA_in (List.mem_of_getElem? (i := 1718) (by decide +kernel)) rfl, qWA_in (List.mem_of_getElem? (i := 113) (by decide +kernel)) rfl, ⟨by decide +kernel, by decide +kernel⟩, by decide +kernel⟩
theorem in_X8_outputAt : Cond.instanceMethod yX8_outputAt ∈ qWA := qWA_in (List.mem_of_getElem? (i := 1716) (by decide +kernel)) rfl
theorem se_X8_outputAt : Cond.selects RX8 yX8_outputAt yX8_outputAt ∈ qWA := qWA_in (List.mem_of_getElem? (i := 1717) (by decide +kernel)) rfl
theorem mw_X8_type : qMw yX8_type cX8_type 2 1 (some .int) := ⟨qWA_in (List.mem_of_getElem? (i := 1722) (by decide +kernel)) rfl, qWA_in (List.mem_of_getElem? (i := 113) (by decide +kernel)) rfl, ⟨by decide +kernel, by decide +kernel⟩, by decide +kernel⟩
theorem in_X8_type : Cond.instanceMethod yX8_type ∈ qWA := qWA_in (List.mem_of_getElem? (i := 1720) (by decide +kernel)) rfl
theorem se_X8_type : Cond.selects RX8 yX8_type yX8_type ∈ qWA := qWA_in (List.mem_of_getElem? (i := 1721) (by decide +kernel)) rfl
theorem mw_X8_letterHere : qMw yX8_letterHere cX8_letterHere 1 0 (some .int) := ⟨qWA_in (List.mem_of_getElem? (i := 1759) (by decide +kernel)) rfl, qWA_in (List.mem_of_getElem? (i := 113) (by decide +kernel)) rfl, ⟨by decide +kernel, by decide +kernel⟩, by decide +kernel⟩
theorem in_X8_letterHere : Cond.instanceMethod yX8_letterHere ∈ qWA := qWA_in (List.mem_of_getElem? (i := 1758) (by decide +kernel)) rfl
theorem se_X8_letterHere : Cond.selects RX8 yX8_letterHere yX8_letterHere ∈ qWA := qWA_in (List.mem_of_getElem? (i := 101) (by decide +kernel)) rfl
theorem mw_X8_reads : qMw yX8_reads cX8_reads 3 2 (some .int) := ⟨qWA_in (List.mem_of_getElem? (i := 1755) (by decide +kernel)) rfl, qWA_in (List.mem_of_getElem? (i := 113) (by decide +kernel)) rfl, ⟨by decide +kernel, by decide +kernel⟩, by decide +kernel⟩
theorem in_X8_reads : Cond.instanceMethod yX8_reads ∈ qWA := qWA_in (List.mem_of_getElem? (i := 1754) (by decide +kernel)) rfl
theorem se_X8_reads : Cond.selects RX8 yX8_reads yX8_reads ∈ qWA := qWA_in (List.mem_of_getElem? (i := 100) (by decide +kernel)) rfl
theorem mw_X8_digit : qMw yX8_digit cX8_digit 1 0 (some .int) := ⟨qWA_in (List.mem_of_getElem? (i := 1751) (by decide +kernel)) rfl, qWA_in (List.mem_of_getElem? (i := 113) (by decide +kernel)) rfl, ⟨by decide +kernel, by decide +kernel⟩, by decide +kernel⟩
theorem in_X8_digit : Cond.instanceMethod yX8_digit ∈ qWA := qWA_in (List.mem_of_getElem? (i := 1750) (by decide +kernel)) rfl
theorem se_X8_digit : Cond.selects RX8 yX8_digit yX8_digit ∈ qWA := qWA_in (List.mem_of_getElem? (i := 99) (by decide +kernel)) rfl
theorem mw_X8_number : qMw yX8_number cX8_number 2 0 (some .int) := ⟨qWA_in (List.mem_of_getElem? (i := 1767) (by decide +kernel)) rfl, qWA_in (List.mem_of_getElem? (i := 113) (by decide +kernel)) rfl, ⟨by decide +kernel, by decide +kernel⟩, by decide +kernel⟩
theorem in_X8_number : Cond.instanceMethod yX8_number ∈ qWA := qWA_in (List.mem_of_getElem? (i := 1766) (by decide +kernel)) rfl
theorem se_X8_number : Cond.selects RX8 yX8_number yX8_number ∈ qWA := qWA_in (List.mem_of_getElem? (i := 103) (by decide +kernel)) rfl
theorem mw_X8_sign : qMw yX8_sign cX8_sign 3 1 none := ⟨qWA_in (List.mem_of_getElem? (i := 1763) (by decide +kernel)) rfl, qWA_in (List.mem_of_getElem? (i := 113) (by decide +kernel)) rfl, ⟨by decide +kernel, by decide +kernel⟩, by decide +kernel⟩
theorem in_X8_sign : Cond.instanceMethod yX8_sign ∈ qWA := qWA_in (List.mem_of_getElem? (i := 1762) (by decide +kernel)) rfl
theorem se_X8_sign : Cond.selects RX8 yX8_sign yX8_sign ∈ qWA := qWA_in (List.mem_of_getElem? (i := 102) (by decide +kernel)) rfl
theorem mw_X8_startOf : qMw yX8_startOf cX8_startOf 1 1 (some .int) := ⟨qWA_in (List.mem_of_getElem? (i := 1741) (by decide +kernel)) rfl, qWA_in (List.mem_of_getElem? (i := 113) (by decide +kernel)) rfl, ⟨by decide +kernel, by decide +kernel⟩, by decide +kernel⟩
theorem st_X8_startOf : Cond.static yX8_startOf ∈ qWA := qWA_in (List.mem_of_getElem? (i := 1740) (by decide +kernel)) rfl
theorem mw_X8_kindHere : qMw yX8_kindHere cX8_kindHere 6 0 (some .int) := ⟨qWA_in (List.mem_of_getElem? (i := 1738) (by decide +kernel)) rfl, qWA_in (List.mem_of_getElem? (i := 113) (by decide +kernel)) rfl, ⟨by decide +kernel, by decide +kernel⟩, by decide +kernel⟩
theorem in_X8_kindHere : Cond.instanceMethod yX8_kindHere ∈ qWA := qWA_in (List.mem_of_getElem? (i := 1737) (by decide +kernel)) rfl
theorem se_X8_kindHere : Cond.selects RX8 yX8_kindHere yX8_kindHere ∈ qWA := qWA_in (List.mem_of_getElem? (i := 97) (by decide +kernel)) rfl
theorem mw_X8_readsTask : qMw yX8_readsTask cX8_readsTask 3 1 none := ⟨qWA_in (List.mem_of_getElem? (i := 1747) (by decide +kernel)) rfl, qWA_in (List.mem_of_getElem? (i := 113) (by decide +kernel)) rfl, ⟨by decide +kernel, by decide +kernel⟩, by decide +kernel⟩
theorem in_X8_readsTask : Cond.instanceMethod yX8_readsTask ∈ qWA := qWA_in (List.mem_of_getElem? (i := 1746) (by decide +kernel)) rfl
theorem se_X8_readsTask : Cond.selects RX8 yX8_readsTask yX8_readsTask ∈ qWA := qWA_in (List.mem_of_getElem? (i := 98) (by decide +kernel)) rfl
theorem mw_X8_readsCommand : qMw yX8_readsCommand cX8_readsCommand 3 0 none := ⟨qWA_in (List.mem_of_getElem? (i := 1734) (by decide +kernel)) rfl, qWA_in (List.mem_of_getElem? (i := 113) (by decide +kernel)) rfl, ⟨by decide +kernel, by decide +kernel⟩, by decide +kernel⟩
theorem in_X8_readsCommand : Cond.instanceMethod yX8_readsCommand ∈ qWA := qWA_in (List.mem_of_getElem? (i := 1733) (by decide +kernel)) rfl
theorem se_X8_readsCommand : Cond.selects RX8 yX8_readsCommand yX8_readsCommand ∈ qWA := qWA_in (List.mem_of_getElem? (i := 96) (by decide +kernel)) rfl
theorem mw_X8_readsAll : qMw yX8_readsAll cX8_readsAll 1 0 none := ⟨qWA_in (List.mem_of_getElem? (i := 1730) (by decide +kernel)) rfl, qWA_in (List.mem_of_getElem? (i := 113) (by decide +kernel)) rfl, ⟨by decide +kernel, by decide +kernel⟩, by decide +kernel⟩
theorem in_X8_readsAll : Cond.instanceMethod yX8_readsAll ∈ qWA := qWA_in (List.mem_of_getElem? (i := 1729) (by decide +kernel)) rfl
theorem se_X8_readsAll : Cond.selects RX8 yX8_readsAll yX8_readsAll ∈ qWA := qWA_in (List.mem_of_getElem? (i := 95) (by decide +kernel)) rfl
theorem mw_X8_does : qMw yX8_does cX8_does 4 1 (some .int) := ⟨qWA_in (List.mem_of_getElem? (i := 1771) (by decide +kernel)) rfl, qWA_in (List.mem_of_getElem? (i := 113) (by decide +kernel)) rfl, ⟨by decide +kernel, by decide +kernel⟩, by decide +kernel⟩
theorem in_X8_does : Cond.instanceMethod yX8_does ∈ qWA := qWA_in (List.mem_of_getElem? (i := 1770) (by decide +kernel)) rfl
theorem se_X8_does : Cond.selects RX8 yX8_does yX8_does ∈ qWA := qWA_in (List.mem_of_getElem? (i := 104) (by decide +kernel)) rfl
theorem mw_X8_letterFor : qMw yX8_letterFor cX8_letterFor 2 1 (some .int) := ⟨qWA_in (List.mem_of_getElem? (i := 1775) (by decide +kernel)) rfl, qWA_in (List.mem_of_getElem? (i := 113) (by decide +kernel)) rfl, ⟨by decide +kernel, by decide +kernel⟩, by decide +kernel⟩
theorem in_X8_letterFor : Cond.instanceMethod yX8_letterFor ∈ qWA := qWA_in (List.mem_of_getElem? (i := 1774) (by decide +kernel)) rfl
theorem se_X8_letterFor : Cond.selects RX8 yX8_letterFor yX8_letterFor ∈ qWA := qWA_in (List.mem_of_getElem? (i := 105) (by decide +kernel)) rfl
theorem mw_X8_runScript : qMw yX8_runScript cX8_runScript 3 0 (some .int) := ⟨qWA_in (List.mem_of_getElem? (i := 1726) (by decide +kernel)) rfl, qWA_in (List.mem_of_getElem? (i := 113) (by decide +kernel)) rfl, ⟨by decide +kernel, by decide +kernel⟩, by decide +kernel⟩
theorem in_X8_runScript : Cond.instanceMethod yX8_runScript ∈ qWA := qWA_in (List.mem_of_getElem? (i := 1724) (by decide +kernel)) rfl
theorem se_X8_runScript : Cond.selects RX8 yX8_runScript yX8_runScript ∈ qWA := qWA_in (List.mem_of_getElem? (i := 1725) (by decide +kernel)) rfl
theorem mw_X8_errorPosition : qMw yX8_errorPosition cX8_errorPosition 1 0 (some .int) := ⟨qWA_in (List.mem_of_getElem? (i := 1779) (by decide +kernel)) rfl, qWA_in (List.mem_of_getElem? (i := 113) (by decide +kernel)) rfl, ⟨by decide +kernel, by decide +kernel⟩, by decide +kernel⟩
theorem in_X8_errorPosition : Cond.instanceMethod yX8_errorPosition ∈ qWA := qWA_in (List.mem_of_getElem? (i := 1777) (by decide +kernel)) rfl
theorem se_X8_errorPosition : Cond.selects RX8 yX8_errorPosition yX8_errorPosition ∈ qWA := qWA_in (List.mem_of_getElem? (i := 1778) (by decide +kernel)) rfl
theorem mw_X8_failedCommand : qMw yX8_failedCommand cX8_failedCommand 1 0 (some .int) := ⟨qWA_in (List.mem_of_getElem? (i := 1783) (by decide +kernel)) rfl, qWA_in (List.mem_of_getElem? (i := 113) (by decide +kernel)) rfl, ⟨by decide +kernel, by decide +kernel⟩, by decide +kernel⟩
theorem in_X8_failedCommand : Cond.instanceMethod yX8_failedCommand ∈ qWA := qWA_in (List.mem_of_getElem? (i := 1781) (by decide +kernel)) rfl
theorem se_X8_failedCommand : Cond.selects RX8 yX8_failedCommand yX8_failedCommand ∈ qWA := qWA_in (List.mem_of_getElem? (i := 1782) (by decide +kernel)) rfl
theorem mw_X8_failureReason : qMw yX8_failureReason cX8_failureReason 1 0 (some .char) := ⟨qWA_in (List.mem_of_getElem? (i := 1787) (by decide +kernel)) rfl, qWA_in (List.mem_of_getElem? (i := 113) (by decide +kernel)) rfl, ⟨by decide +kernel, by decide +kernel⟩, by decide +kernel⟩
theorem in_X8_failureReason : Cond.instanceMethod yX8_failureReason ∈ qWA := qWA_in (List.mem_of_getElem? (i := 1785) (by decide +kernel)) rfl
theorem se_X8_failureReason : Cond.selects RX8 yX8_failureReason yX8_failureReason ∈ qWA := qWA_in (List.mem_of_getElem? (i := 1786) (by decide +kernel)) rfl
theorem mw_L_addTask : qMwH yL_addTask cL_addTask 7 6 (some .int) [(0, 14, 17, 13), (0, 14, 21, 15)] := ⟨qWA_in (List.mem_of_getElem? (i := 522) (by decide +kernel)) rfl, qWA_in (List.mem_of_getElem? (i := 106) (by decide +kernel)) rfl, ⟨by decide +kernel, by decide +kernel⟩, by decide +kernel⟩
theorem st_L_addTask : Cond.static yL_addTask ∈ qWA := qWA_in (List.mem_of_getElem? (i := 521) (by decide +kernel)) rfl
theorem mw_L_removeTask : qMwH yL_removeTask cL_removeTask 4 3 (some .int) [(0, 9, 12, 21)] := ⟨qWA_in (List.mem_of_getElem? (i := 666) (by decide +kernel)) rfl, qWA_in (List.mem_of_getElem? (i := 106) (by decide +kernel)) rfl, ⟨by decide +kernel, by decide +kernel⟩, by decide +kernel⟩
theorem st_L_removeTask : Cond.static yL_removeTask ∈ qWA := qWA_in (List.mem_of_getElem? (i := 665) (by decide +kernel)) rfl
theorem mw_L_addDependency : qMwH yL_addDependency cL_addDependency 5 4 (some .int) [(0, 17, 20, 21), (0, 17, 24, 13), (0, 17, 28, 27)] := ⟨qWA_in (List.mem_of_getElem? (i := 706) (by decide +kernel)) rfl, qWA_in (List.mem_of_getElem? (i := 106) (by decide +kernel)) rfl, ⟨by decide +kernel, by decide +kernel⟩, by decide +kernel⟩
theorem st_L_addDependency : Cond.static yL_addDependency ∈ qWA := qWA_in (List.mem_of_getElem? (i := 705) (by decide +kernel)) rfl
theorem mw_L_removeDependency : qMwH yL_removeDependency cL_removeDependency 5 4 (some .int) [(0, 17, 20, 21)] := ⟨qWA_in (List.mem_of_getElem? (i := 729) (by decide +kernel)) rfl, qWA_in (List.mem_of_getElem? (i := 106) (by decide +kernel)) rfl, ⟨by decide +kernel, by decide +kernel⟩, by decide +kernel⟩
theorem st_L_removeDependency : Cond.static yL_removeDependency ∈ qWA := qWA_in (List.mem_of_getElem? (i := 728) (by decide +kernel)) rfl
theorem mw_L_setDuration : qMwH yL_setDuration cL_setDuration 5 4 (some .int) [(0, 10, 13, 21), (0, 10, 17, 13)] := ⟨qWA_in (List.mem_of_getElem? (i := 741) (by decide +kernel)) rfl, qWA_in (List.mem_of_getElem? (i := 106) (by decide +kernel)) rfl, ⟨by decide +kernel, by decide +kernel⟩, by decide +kernel⟩
theorem st_L_setDuration : Cond.static yL_setDuration ∈ qWA := qWA_in (List.mem_of_getElem? (i := 740) (by decide +kernel)) rfl
theorem mw_L_setRelease : qMwH yL_setRelease cL_setRelease 5 4 (some .int) [(0, 10, 13, 21), (0, 10, 17, 13)] := ⟨qWA_in (List.mem_of_getElem? (i := 753) (by decide +kernel)) rfl, qWA_in (List.mem_of_getElem? (i := 106) (by decide +kernel)) rfl, ⟨by decide +kernel, by decide +kernel⟩, by decide +kernel⟩
theorem st_L_setRelease : Cond.static yL_setRelease ∈ qWA := qWA_in (List.mem_of_getElem? (i := 752) (by decide +kernel)) rfl
theorem mw_L_setLimit : qMwH yL_setLimit cL_setLimit 5 4 (some .int) [(0, 10, 13, 13)] := ⟨qWA_in (List.mem_of_getElem? (i := 764) (by decide +kernel)) rfl, qWA_in (List.mem_of_getElem? (i := 106) (by decide +kernel)) rfl, ⟨by decide +kernel, by decide +kernel⟩, by decide +kernel⟩
theorem st_L_setLimit : Cond.static yL_setLimit ∈ qWA := qWA_in (List.mem_of_getElem? (i := 763) (by decide +kernel)) rfl
theorem mw_L_duration : qMwH yL_duration cL_duration 4 3 (some .int) [(0, 9, 12, 21)] := ⟨qWA_in (List.mem_of_getElem? (i := 775) (by decide +kernel)) rfl, qWA_in (List.mem_of_getElem? (i := 106) (by decide +kernel)) rfl, ⟨by decide +kernel, by decide +kernel⟩, by decide +kernel⟩
theorem st_L_duration : Cond.static yL_duration ∈ qWA := qWA_in (List.mem_of_getElem? (i := 774) (by decide +kernel)) rfl
theorem mw_L_resource : qMwH yL_resource cL_resource 4 3 (some .int) [(0, 9, 12, 21)] := ⟨qWA_in (List.mem_of_getElem? (i := 786) (by decide +kernel)) rfl, qWA_in (List.mem_of_getElem? (i := 106) (by decide +kernel)) rfl, ⟨by decide +kernel, by decide +kernel⟩, by decide +kernel⟩
theorem st_L_resource : Cond.static yL_resource ∈ qWA := qWA_in (List.mem_of_getElem? (i := 785) (by decide +kernel)) rfl
theorem mw_L_demand : qMwH yL_demand cL_demand 4 3 (some .int) [(0, 9, 12, 21)] := ⟨qWA_in (List.mem_of_getElem? (i := 793) (by decide +kernel)) rfl, qWA_in (List.mem_of_getElem? (i := 106) (by decide +kernel)) rfl, ⟨by decide +kernel, by decide +kernel⟩, by decide +kernel⟩
theorem st_L_demand : Cond.static yL_demand ∈ qWA := qWA_in (List.mem_of_getElem? (i := 792) (by decide +kernel)) rfl
theorem mw_L_release : qMwH yL_release cL_release 4 3 (some .int) [(0, 9, 12, 21)] := ⟨qWA_in (List.mem_of_getElem? (i := 800) (by decide +kernel)) rfl, qWA_in (List.mem_of_getElem? (i := 106) (by decide +kernel)) rfl, ⟨by decide +kernel, by decide +kernel⟩, by decide +kernel⟩
theorem st_L_release : Cond.static yL_release ∈ qWA := qWA_in (List.mem_of_getElem? (i := 799) (by decide +kernel)) rfl
theorem mw_L_limit : qMwH yL_limit cL_limit 4 3 (some .int) [(0, 9, 12, 13)] := ⟨qWA_in (List.mem_of_getElem? (i := 807) (by decide +kernel)) rfl, qWA_in (List.mem_of_getElem? (i := 106) (by decide +kernel)) rfl, ⟨by decide +kernel, by decide +kernel⟩, by decide +kernel⟩
theorem st_L_limit : Cond.static yL_limit ∈ qWA := qWA_in (List.mem_of_getElem? (i := 806) (by decide +kernel)) rfl
theorem mw_L_dependsDirectly : qMwH yL_dependsDirectly cL_dependsDirectly 5 4 (some .int) [(0, 17, 20, 21)] := ⟨qWA_in (List.mem_of_getElem? (i := 819) (by decide +kernel)) rfl, qWA_in (List.mem_of_getElem? (i := 106) (by decide +kernel)) rfl, ⟨by decide +kernel, by decide +kernel⟩, by decide +kernel⟩
theorem st_L_dependsDirectly : Cond.static yL_dependsDirectly ∈ qWA := qWA_in (List.mem_of_getElem? (i := 818) (by decide +kernel)) rfl
theorem mw_L_depends : qMwH yL_depends cL_depends 5 4 (some .int) [(0, 17, 20, 21)] := ⟨qWA_in (List.mem_of_getElem? (i := 826) (by decide +kernel)) rfl, qWA_in (List.mem_of_getElem? (i := 106) (by decide +kernel)) rfl, ⟨by decide +kernel, by decide +kernel⟩, by decide +kernel⟩
theorem st_L_depends : Cond.static yL_depends ∈ qWA := qWA_in (List.mem_of_getElem? (i := 825) (by decide +kernel)) rfl
theorem mw_L_dependsByClosure : qMwH yL_dependsByClosure cL_dependsByClosure 5 4 (some .int) [(0, 17, 20, 21)] := ⟨qWA_in (List.mem_of_getElem? (i := 833) (by decide +kernel)) rfl, qWA_in (List.mem_of_getElem? (i := 106) (by decide +kernel)) rfl, ⟨by decide +kernel, by decide +kernel⟩, by decide +kernel⟩
theorem st_L_dependsByClosure : Cond.static yL_dependsByClosure ∈ qWA := qWA_in (List.mem_of_getElem? (i := 832) (by decide +kernel)) rfl
theorem mw_L_neededCount : qMwH yL_neededCount cL_neededCount 4 3 (some .int) [(0, 9, 12, 21)] := ⟨qWA_in (List.mem_of_getElem? (i := 840) (by decide +kernel)) rfl, qWA_in (List.mem_of_getElem? (i := 106) (by decide +kernel)) rfl, ⟨by decide +kernel, by decide +kernel⟩, by decide +kernel⟩
theorem st_L_neededCount : Cond.static yL_neededCount ∈ qWA := qWA_in (List.mem_of_getElem? (i := 839) (by decide +kernel)) rfl
theorem mw_L_dependentCount : qMwH yL_dependentCount cL_dependentCount 4 3 (some .int) [(0, 9, 12, 21)] := ⟨qWA_in (List.mem_of_getElem? (i := 853) (by decide +kernel)) rfl, qWA_in (List.mem_of_getElem? (i := 106) (by decide +kernel)) rfl, ⟨by decide +kernel, by decide +kernel⟩, by decide +kernel⟩
theorem st_L_dependentCount : Cond.static yL_dependentCount ∈ qWA := qWA_in (List.mem_of_getElem? (i := 852) (by decide +kernel)) rfl
theorem mw_L_taskInOrder : qMwH yL_taskInOrder cL_taskInOrder 4 3 (some .int) [(0, 9, 12, 75)] := ⟨qWA_in (List.mem_of_getElem? (i := 860) (by decide +kernel)) rfl, qWA_in (List.mem_of_getElem? (i := 106) (by decide +kernel)) rfl, ⟨by decide +kernel, by decide +kernel⟩, by decide +kernel⟩
theorem st_L_taskInOrder : Cond.static yL_taskInOrder ∈ qWA := qWA_in (List.mem_of_getElem? (i := 859) (by decide +kernel)) rfl
theorem mw_L_earliestStart : qMwH yL_earliestStart cL_earliestStart 4 3 (some .int) [(0, 9, 12, 21)] := ⟨qWA_in (List.mem_of_getElem? (i := 884) (by decide +kernel)) rfl, qWA_in (List.mem_of_getElem? (i := 106) (by decide +kernel)) rfl, ⟨by decide +kernel, by decide +kernel⟩, by decide +kernel⟩
theorem st_L_earliestStart : Cond.static yL_earliestStart ∈ qWA := qWA_in (List.mem_of_getElem? (i := 883) (by decide +kernel)) rfl
theorem mw_L_earliestStartByRounds : qMwH yL_earliestStartByRounds cL_earliestStartByRounds 4 3 (some .int) [(0, 9, 12, 21)] := ⟨qWA_in (List.mem_of_getElem? (i := 891) (by decide +kernel)) rfl, qWA_in (List.mem_of_getElem? (i := 106) (by decide +kernel)) rfl, ⟨by decide +kernel, by decide +kernel⟩, by decide +kernel⟩
theorem st_L_earliestStartByRounds : Cond.static yL_earliestStartByRounds ∈ qWA := qWA_in (List.mem_of_getElem? (i := 890) (by decide +kernel)) rfl
theorem mw_L_latestStart : qMwH yL_latestStart cL_latestStart 4 3 (some .int) [(0, 9, 12, 21)] := ⟨qWA_in (List.mem_of_getElem? (i := 898) (by decide +kernel)) rfl, qWA_in (List.mem_of_getElem? (i := 106) (by decide +kernel)) rfl, ⟨by decide +kernel, by decide +kernel⟩, by decide +kernel⟩
theorem st_L_latestStart : Cond.static yL_latestStart ∈ qWA := qWA_in (List.mem_of_getElem? (i := 897) (by decide +kernel)) rfl
theorem mw_L_slack : qMwH yL_slack cL_slack 4 3 (some .int) [(0, 9, 12, 21)] := ⟨qWA_in (List.mem_of_getElem? (i := 905) (by decide +kernel)) rfl, qWA_in (List.mem_of_getElem? (i := 106) (by decide +kernel)) rfl, ⟨by decide +kernel, by decide +kernel⟩, by decide +kernel⟩
theorem st_L_slack : Cond.static yL_slack ∈ qWA := qWA_in (List.mem_of_getElem? (i := 904) (by decide +kernel)) rfl
theorem mw_L_isCritical : qMwH yL_isCritical cL_isCritical 4 3 (some .int) [(0, 16, 19, 21)] := ⟨qWA_in (List.mem_of_getElem? (i := 912) (by decide +kernel)) rfl, qWA_in (List.mem_of_getElem? (i := 106) (by decide +kernel)) rfl, ⟨by decide +kernel, by decide +kernel⟩, by decide +kernel⟩
theorem st_L_isCritical : Cond.static yL_isCritical ∈ qWA := qWA_in (List.mem_of_getElem? (i := 911) (by decide +kernel)) rfl
theorem mw_L_lastTask : qMwH yL_lastTask cL_lastTask 3 2 (some .int) [(0, 8, 11, 75)] := ⟨qWA_in (List.mem_of_getElem? (i := 919) (by decide +kernel)) rfl, qWA_in (List.mem_of_getElem? (i := 106) (by decide +kernel)) rfl, ⟨by decide +kernel, by decide +kernel⟩, by decide +kernel⟩
theorem st_L_lastTask : Cond.static yL_lastTask ∈ qWA := qWA_in (List.mem_of_getElem? (i := 918) (by decide +kernel)) rfl
theorem mw_L_levelledStart : qMwH yL_levelledStart cL_levelledStart 4 3 (some .int) [(0, 9, 12, 21)] := ⟨qWA_in (List.mem_of_getElem? (i := 927) (by decide +kernel)) rfl, qWA_in (List.mem_of_getElem? (i := 106) (by decide +kernel)) rfl, ⟨by decide +kernel, by decide +kernel⟩, by decide +kernel⟩
theorem st_L_levelledStart : Cond.static yL_levelledStart ∈ qWA := qWA_in (List.mem_of_getElem? (i := 926) (by decide +kernel)) rfl
theorem mw_L_usage : qMwH yL_usage cL_usage 5 4 (some .int) [(0, 10, 13, 13)] := ⟨qWA_in (List.mem_of_getElem? (i := 934) (by decide +kernel)) rfl, qWA_in (List.mem_of_getElem? (i := 106) (by decide +kernel)) rfl, ⟨by decide +kernel, by decide +kernel⟩, by decide +kernel⟩
theorem st_L_usage : Cond.static yL_usage ∈ qWA := qWA_in (List.mem_of_getElem? (i := 933) (by decide +kernel)) rfl
theorem mw_L_usageByTasks : qMwH yL_usageByTasks cL_usageByTasks 5 4 (some .int) [(0, 10, 13, 13)] := ⟨qWA_in (List.mem_of_getElem? (i := 946) (by decide +kernel)) rfl, qWA_in (List.mem_of_getElem? (i := 106) (by decide +kernel)) rfl, ⟨by decide +kernel, by decide +kernel⟩, by decide +kernel⟩
theorem st_L_usageByTasks : Cond.static yL_usageByTasks ∈ qWA := qWA_in (List.mem_of_getElem? (i := 945) (by decide +kernel)) rfl
theorem mw_L_peakUsage : qMwH yL_peakUsage cL_peakUsage 4 3 (some .int) [(0, 9, 12, 13)] := ⟨qWA_in (List.mem_of_getElem? (i := 957) (by decide +kernel)) rfl, qWA_in (List.mem_of_getElem? (i := 106) (by decide +kernel)) rfl, ⟨by decide +kernel, by decide +kernel⟩, by decide +kernel⟩
theorem st_L_peakUsage : Cond.static yL_peakUsage ∈ qWA := qWA_in (List.mem_of_getElem? (i := 956) (by decide +kernel)) rfl
theorem mw_L_tasksOn : qMwH yL_tasksOn cL_tasksOn 4 3 (some .int) [(0, 9, 12, 13)] := ⟨qWA_in (List.mem_of_getElem? (i := 964) (by decide +kernel)) rfl, qWA_in (List.mem_of_getElem? (i := 106) (by decide +kernel)) rfl, ⟨by decide +kernel, by decide +kernel⟩, by decide +kernel⟩
theorem st_L_tasksOn : Cond.static yL_tasksOn ∈ qWA := qWA_in (List.mem_of_getElem? (i := 963) (by decide +kernel)) rfl
theorem mw_L_workload : qMwH yL_workload cL_workload 4 3 (some .int) [(0, 9, 12, 13)] := ⟨qWA_in (List.mem_of_getElem? (i := 971) (by decide +kernel)) rfl, qWA_in (List.mem_of_getElem? (i := 106) (by decide +kernel)) rfl, ⟨by decide +kernel, by decide +kernel⟩, by decide +kernel⟩
theorem st_L_workload : Cond.static yL_workload ∈ qWA := qWA_in (List.mem_of_getElem? (i := 970) (by decide +kernel)) rfl
theorem mw_L_workloadByDays : qMwH yL_workloadByDays cL_workloadByDays 4 3 (some .int) [(0, 9, 12, 13)] := ⟨qWA_in (List.mem_of_getElem? (i := 978) (by decide +kernel)) rfl, qWA_in (List.mem_of_getElem? (i := 106) (by decide +kernel)) rfl, ⟨by decide +kernel, by decide +kernel⟩, by decide +kernel⟩
theorem st_L_workloadByDays : Cond.static yL_workloadByDays ∈ qWA := qWA_in (List.mem_of_getElem? (i := 977) (by decide +kernel)) rfl
theorem mw_L_baselineStart : qMwH yL_baselineStart cL_baselineStart 4 3 (some .int) [(0, 9, 12, 21), (0, 9, 15, 75)] := ⟨qWA_in (List.mem_of_getElem? (i := 985) (by decide +kernel)) rfl, qWA_in (List.mem_of_getElem? (i := 106) (by decide +kernel)) rfl, ⟨by decide +kernel, by decide +kernel⟩, by decide +kernel⟩
theorem st_L_baselineStart : Cond.static yL_baselineStart ∈ qWA := qWA_in (List.mem_of_getElem? (i := 984) (by decide +kernel)) rfl
theorem mw_L_drift : qMwH yL_drift cL_drift 4 3 (some .int) [(0, 9, 12, 21), (0, 9, 15, 75)] := ⟨qWA_in (List.mem_of_getElem? (i := 1001) (by decide +kernel)) rfl, qWA_in (List.mem_of_getElem? (i := 106) (by decide +kernel)) rfl, ⟨by decide +kernel, by decide +kernel⟩, by decide +kernel⟩
theorem st_L_drift : Cond.static yL_drift ∈ qWA := qWA_in (List.mem_of_getElem? (i := 1000) (by decide +kernel)) rfl
theorem mw_L_totalDrift : qMwH yL_totalDrift cL_totalDrift 3 2 (some .int) [(0, 8, 11, 75)] := ⟨qWA_in (List.mem_of_getElem? (i := 1012) (by decide +kernel)) rfl, qWA_in (List.mem_of_getElem? (i := 106) (by decide +kernel)) rfl, ⟨by decide +kernel, by decide +kernel⟩, by decide +kernel⟩
theorem st_L_totalDrift : Cond.static yL_totalDrift ∈ qWA := qWA_in (List.mem_of_getElem? (i := 1011) (by decide +kernel)) rfl
theorem mw_L_taskBySlack : qMwH yL_taskBySlack cL_taskBySlack 4 3 (some .int) [(0, 9, 12, 75)] := ⟨qWA_in (List.mem_of_getElem? (i := 1023) (by decide +kernel)) rfl, qWA_in (List.mem_of_getElem? (i := 106) (by decide +kernel)) rfl, ⟨by decide +kernel, by decide +kernel⟩, by decide +kernel⟩
theorem st_L_taskBySlack : Cond.static yL_taskBySlack ∈ qWA := qWA_in (List.mem_of_getElem? (i := 1022) (by decide +kernel)) rfl
theorem mw_L_taskByStart : qMwH yL_taskByStart cL_taskByStart 4 3 (some .int) [(0, 9, 12, 75)] := ⟨qWA_in (List.mem_of_getElem? (i := 1042) (by decide +kernel)) rfl, qWA_in (List.mem_of_getElem? (i := 106) (by decide +kernel)) rfl, ⟨by decide +kernel, by decide +kernel⟩, by decide +kernel⟩
theorem st_L_taskByStart : Cond.static yL_taskByStart ∈ qWA := qWA_in (List.mem_of_getElem? (i := 1041) (by decide +kernel)) rfl
theorem mw_L_meanSlack : qMwH yL_meanSlack cL_meanSlack 3 2 (some .int) [(0, 7, 10, 137)] := ⟨qWA_in (List.mem_of_getElem? (i := 1049) (by decide +kernel)) rfl, qWA_in (List.mem_of_getElem? (i := 106) (by decide +kernel)) rfl, ⟨by decide +kernel, by decide +kernel⟩, by decide +kernel⟩
theorem st_L_meanSlack : Cond.static yL_meanSlack ∈ qWA := qWA_in (List.mem_of_getElem? (i := 1048) (by decide +kernel)) rfl
theorem mw_L_utilization : qMwH yL_utilization cL_utilization 4 3 (some .int) [(0, 9, 12, 13), (0, 9, 15, 137)] := ⟨qWA_in (List.mem_of_getElem? (i := 1072) (by decide +kernel)) rfl, qWA_in (List.mem_of_getElem? (i := 106) (by decide +kernel)) rfl, ⟨by decide +kernel, by decide +kernel⟩, by decide +kernel⟩
theorem st_L_utilization : Cond.static yL_utilization ∈ qWA := qWA_in (List.mem_of_getElem? (i := 1071) (by decide +kernel)) rfl
theorem mw_L_renderTask : qMwH yL_renderTask cL_renderTask 4 3 (some .int) [(0, 9, 12, 21)] := ⟨qWA_in (List.mem_of_getElem? (i := 1079) (by decide +kernel)) rfl, qWA_in (List.mem_of_getElem? (i := 106) (by decide +kernel)) rfl, ⟨by decide +kernel, by decide +kernel⟩, by decide +kernel⟩
theorem st_L_renderTask : Cond.static yL_renderTask ∈ qWA := qWA_in (List.mem_of_getElem? (i := 1078) (by decide +kernel)) rfl
theorem mw_L_renderUsage : qMwH yL_renderUsage cL_renderUsage 4 3 (some .int) [(0, 9, 12, 13)] := ⟨qWA_in (List.mem_of_getElem? (i := 1099) (by decide +kernel)) rfl, qWA_in (List.mem_of_getElem? (i := 106) (by decide +kernel)) rfl, ⟨by decide +kernel, by decide +kernel⟩, by decide +kernel⟩
theorem st_L_renderUsage : Cond.static yL_renderUsage ∈ qWA := qWA_in (List.mem_of_getElem? (i := 1098) (by decide +kernel)) rfl
theorem mw_L_outputAt : qMwH yL_outputAt cL_outputAt 4 3 (some .int) [(0, 9, 12, 21)] := ⟨qWA_in (List.mem_of_getElem? (i := 1106) (by decide +kernel)) rfl, qWA_in (List.mem_of_getElem? (i := 106) (by decide +kernel)) rfl, ⟨by decide +kernel, by decide +kernel⟩, by decide +kernel⟩
theorem st_L_outputAt : Cond.static yL_outputAt ∈ qWA := qWA_in (List.mem_of_getElem? (i := 1105) (by decide +kernel)) rfl
theorem mw_L_type : qMwH yL_type cL_type 4 3 (some .int) [(0, 9, 12, 13), (0, 9, 15, 15)] := ⟨qWA_in (List.mem_of_getElem? (i := 1117) (by decide +kernel)) rfl, qWA_in (List.mem_of_getElem? (i := 106) (by decide +kernel)) rfl, ⟨by decide +kernel, by decide +kernel⟩, by decide +kernel⟩
theorem st_L_type : Cond.static yL_type ∈ qWA := qWA_in (List.mem_of_getElem? (i := 1116) (by decide +kernel)) rfl
theorem mw_L_runScript : qMwH yL_runScript cL_runScript 3 2 (some .int) [(0, 8, 11, 13), (0, 8, 14, 15)] := ⟨qWA_in (List.mem_of_getElem? (i := 1130) (by decide +kernel)) rfl, qWA_in (List.mem_of_getElem? (i := 106) (by decide +kernel)) rfl, ⟨by decide +kernel, by decide +kernel⟩, by decide +kernel⟩
theorem st_L_runScript : Cond.static yL_runScript ∈ qWA := qWA_in (List.mem_of_getElem? (i := 1129) (by decide +kernel)) rfl
theorem mw_L_errorPosition : qMwH yL_errorPosition cL_errorPosition 3 2 (some .int) [(0, 8, 11, 75)] := ⟨qWA_in (List.mem_of_getElem? (i := 1249) (by decide +kernel)) rfl, qWA_in (List.mem_of_getElem? (i := 106) (by decide +kernel)) rfl, ⟨by decide +kernel, by decide +kernel⟩, by decide +kernel⟩
theorem st_L_errorPosition : Cond.static yL_errorPosition ∈ qWA := qWA_in (List.mem_of_getElem? (i := 1248) (by decide +kernel)) rfl
theorem mw_L_failedCommand : qMwH yL_failedCommand cL_failedCommand 3 2 (some .int) [(0, 8, 11, 75)] := ⟨qWA_in (List.mem_of_getElem? (i := 1257) (by decide +kernel)) rfl, qWA_in (List.mem_of_getElem? (i := 106) (by decide +kernel)) rfl, ⟨by decide +kernel, by decide +kernel⟩, by decide +kernel⟩
theorem st_L_failedCommand : Cond.static yL_failedCommand ∈ qWA := qWA_in (List.mem_of_getElem? (i := 1256) (by decide +kernel)) rfl
theorem mw_L_failureReason : qMwH yL_failureReason cL_failureReason 3 2 (some .int) [(0, 8, 11, 75)] := ⟨qWA_in (List.mem_of_getElem? (i := 1269) (by decide +kernel)) rfl, qWA_in (List.mem_of_getElem? (i := 106) (by decide +kernel)) rfl, ⟨by decide +kernel, by decide +kernel⟩, by decide +kernel⟩
theorem st_L_failureReason : Cond.static yL_failureReason ∈ qWA := qWA_in (List.mem_of_getElem? (i := 1268) (by decide +kernel)) rfl
theorem mw_L_undo : qMwH yL_undo cL_undo 3 2 (some .int) [(0, 8, 11, 15)] := ⟨qWA_in (List.mem_of_getElem? (i := 1276) (by decide +kernel)) rfl, qWA_in (List.mem_of_getElem? (i := 106) (by decide +kernel)) rfl, ⟨by decide +kernel, by decide +kernel⟩, by decide +kernel⟩
theorem st_L_undo : Cond.static yL_undo ∈ qWA := qWA_in (List.mem_of_getElem? (i := 1275) (by decide +kernel)) rfl
theorem mw_L_restore : qMwH yL_restore cL_restore 3 2 (some .int) [(0, 8, 11, 15)] := ⟨qWA_in (List.mem_of_getElem? (i := 1289) (by decide +kernel)) rfl, qWA_in (List.mem_of_getElem? (i := 106) (by decide +kernel)) rfl, ⟨by decide +kernel, by decide +kernel⟩, by decide +kernel⟩
theorem st_L_restore : Cond.static yL_restore ∈ qWA := qWA_in (List.mem_of_getElem? (i := 1288) (by decide +kernel)) rfl
theorem fl_X2_11 : qFl RX2 11 RX2 TX2 0 := Or.inl (qWA_in (List.mem_of_getElem? (i := 202) (by decide +kernel)) rfl)
theorem fl_X2_18 : qFl RX2 18 RX2 TX2 2 := Or.inl (qWA_in (List.mem_of_getElem? (i := 205) (by decide +kernel)) rfl)
theorem fl_X2_30 : qFl RX2 30 RX2 TX2 1 := Or.inl (qWA_in (List.mem_of_getElem? (i := 203) (by decide +kernel)) rfl)
theorem fl_X3_15 : qFl RX3 15 RX3 TX3 1 := Or.inl (qWA_in (List.mem_of_getElem? (i := 294) (by decide +kernel)) rfl)
theorem fl_X3_9 : qFl RX3 9 RX3 TX3 0 := Or.inl (qWA_in (List.mem_of_getElem? (i := 292) (by decide +kernel)) rfl)
theorem fl_X4_120 : qFl RX4 120 RX4 TX4 8 := Or.inl (qWA_in (List.mem_of_getElem? (i := 235) (by decide +kernel)) rfl)
theorem fl_X4_15 : qFl RX4 15 RX4 TX4 1 := Or.inl (qWA_in (List.mem_of_getElem? (i := 221) (by decide +kernel)) rfl)
theorem fl_X4_18 : qFl RX4 18 RX4 TX4 2 := Or.inl (qWA_in (List.mem_of_getElem? (i := 223) (by decide +kernel)) rfl)
theorem fl_X4_21 : qFl RX4 21 RX4 TX4 3 := Or.inl (qWA_in (List.mem_of_getElem? (i := 225) (by decide +kernel)) rfl)
theorem fl_X4_24 : qFl RX4 24 RX4 TX4 4 := Or.inl (qWA_in (List.mem_of_getElem? (i := 227) (by decide +kernel)) rfl)
theorem fl_X4_27 : qFl RX4 27 RX4 TX4 5 := Or.inl (qWA_in (List.mem_of_getElem? (i := 229) (by decide +kernel)) rfl)
theorem fl_X4_30 : qFl RX4 30 RX4 TX4 6 := Or.inl (qWA_in (List.mem_of_getElem? (i := 231) (by decide +kernel)) rfl)
theorem fl_X4_88 : qFl RX4 88 RX4 TX4 7 := Or.inl (qWA_in (List.mem_of_getElem? (i := 232) (by decide +kernel)) rfl)
theorem fl_X4_9 : qFl RX4 9 RX4 TX4 0 := Or.inl (qWA_in (List.mem_of_getElem? (i := 219) (by decide +kernel)) rfl)
theorem fl_X5_15 : qFl RX5 15 RX5 TX5 1 := Or.inl (qWA_in (List.mem_of_getElem? (i := 151) (by decide +kernel)) rfl)
theorem fl_X5_18 : qFl RX5 18 RX5 TX5 2 := Or.inl (qWA_in (List.mem_of_getElem? (i := 154) (by decide +kernel)) rfl)
theorem fl_X5_21 : qFl RX5 21 RX5 TX5 3 := Or.inl (qWA_in (List.mem_of_getElem? (i := 157) (by decide +kernel)) rfl)
theorem fl_X5_24 : qFl RX5 24 RX5 TX5 4 := Or.inl (qWA_in (List.mem_of_getElem? (i := 160) (by decide +kernel)) rfl)
theorem fl_X5_27 : qFl RX5 27 RX5 TX5 5 := Or.inl (qWA_in (List.mem_of_getElem? (i := 163) (by decide +kernel)) rfl)
theorem fl_X5_30 : qFl RX5 30 RX5 TX5 6 := Or.inl (qWA_in (List.mem_of_getElem? (i := 165) (by decide +kernel)) rfl)
theorem fl_X5_41 : qFl RX5 41 RX5 TX5 7 := Or.inl (qWA_in (List.mem_of_getElem? (i := 168) (by decide +kernel)) rfl)
theorem fl_X5_45 : qFl RX5 45 RX5 TX5 8 := Or.inl (qWA_in (List.mem_of_getElem? (i := 171) (by decide +kernel)) rfl)
theorem fl_X5_9 : qFl RX5 9 RX5 TX5 0 := Or.inl (qWA_in (List.mem_of_getElem? (i := 148) (by decide +kernel)) rfl)
theorem fl_X6_17 : qFl RX6 17 RX6 TX6 1 := Or.inl (qWA_in (List.mem_of_getElem? (i := 264) (by decide +kernel)) rfl)
theorem fl_X6_21 : qFl RX6 21 RX6 TX6 2 := Or.inl (qWA_in (List.mem_of_getElem? (i := 265) (by decide +kernel)) rfl)
theorem fl_X6_25 : qFl RX6 25 RX6 TX6 3 := Or.inl (qWA_in (List.mem_of_getElem? (i := 266) (by decide +kernel)) rfl)
theorem fl_X6_33 : qFl RX6 33 RX6 TX6 5 := Or.inl (qWA_in (List.mem_of_getElem? (i := 270) (by decide +kernel)) rfl)
theorem fl_X6_36 : qFl RX6 36 RX6 TX6 4 := Or.inl (qWA_in (List.mem_of_getElem? (i := 268) (by decide +kernel)) rfl)
theorem fl_X6_9 : qFl RX6 9 RX6 TX6 0 := Or.inl (qWA_in (List.mem_of_getElem? (i := 263) (by decide +kernel)) rfl)
theorem fl_X7_12 : qFl RX7 12 RX7 TX7 0 := Or.inl (qWA_in (List.mem_of_getElem? (i := 301) (by decide +kernel)) rfl)
theorem fl_X7_16 : qFl RX7 16 RX7 TX7 1 := Or.inl (qWA_in (List.mem_of_getElem? (i := 302) (by decide +kernel)) rfl)
theorem fl_X7_19 : qFl RX7 19 RX7 TX7 2 := Or.inl (qWA_in (List.mem_of_getElem? (i := 303) (by decide +kernel)) rfl)
theorem fl_X7_25 : qFl RX7 25 RX7 TX7 3 := Or.inl (qWA_in (List.mem_of_getElem? (i := 304) (by decide +kernel)) rfl)
theorem fl_X7_32 : qFl RX7 32 RX7 TX7 4 := Or.inl (qWA_in (List.mem_of_getElem? (i := 305) (by decide +kernel)) rfl)
theorem fl_X7_342 : qFl RX7 342 RX7 TX7 8 := Or.inl (qWA_in (List.mem_of_getElem? (i := 309) (by decide +kernel)) rfl)
theorem fl_X7_345 : qFl RX7 345 RX7 TX7 9 := Or.inl (qWA_in (List.mem_of_getElem? (i := 310) (by decide +kernel)) rfl)
theorem fl_X7_39 : qFl RX7 39 RX7 TX7 5 := Or.inl (qWA_in (List.mem_of_getElem? (i := 306) (by decide +kernel)) rfl)
theorem fl_X7_46 : qFl RX7 46 RX7 TX7 6 := Or.inl (qWA_in (List.mem_of_getElem? (i := 307) (by decide +kernel)) rfl)
theorem fl_X7_50 : qFl RX7 50 RX7 TX7 7 := Or.inl (qWA_in (List.mem_of_getElem? (i := 308) (by decide +kernel)) rfl)
theorem fl_X7_54 : qFl RX7 54 RX7 TX7 10 := Or.inl (qWA_in (List.mem_of_getElem? (i := 311) (by decide +kernel)) rfl)
theorem fl_X7_58 : qFl RX7 58 RX7 TX7 11 := Or.inl (qWA_in (List.mem_of_getElem? (i := 312) (by decide +kernel)) rfl)
theorem fl_X7_61 : qFl RX7 61 RX7 TX7 12 := Or.inl (qWA_in (List.mem_of_getElem? (i := 313) (by decide +kernel)) rfl)
theorem fl_X8_13 : qFl RX8 13 RX8 TX8 1 := Or.inl (qWA_in (List.mem_of_getElem? (i := 1306) (by decide +kernel)) rfl)
theorem fl_X8_16 : qFl RX8 16 RX8 TX8 2 := Or.inl (qWA_in (List.mem_of_getElem? (i := 1307) (by decide +kernel)) rfl)
theorem fl_X8_19 : qFl RX8 19 RX8 TX8 3 := Or.inl (qWA_in (List.mem_of_getElem? (i := 1308) (by decide +kernel)) rfl)
theorem fl_X8_191 : qFl RX8 191 RX8 TX8 16 := Or.inl (qWA_in (List.mem_of_getElem? (i := 1321) (by decide +kernel)) rfl)
theorem fl_X8_194 : qFl RX8 194 RX8 TX8 14 := Or.inl (qWA_in (List.mem_of_getElem? (i := 1319) (by decide +kernel)) rfl)
theorem fl_X8_197 : qFl RX8 197 RX8 TX8 19 := Or.inl (qWA_in (List.mem_of_getElem? (i := 1324) (by decide +kernel)) rfl)
theorem fl_X8_200 : qFl RX8 200 RX8 TX8 18 := Or.inl (qWA_in (List.mem_of_getElem? (i := 1323) (by decide +kernel)) rfl)
theorem fl_X8_203 : qFl RX8 203 RX8 TX8 20 := Or.inl (qWA_in (List.mem_of_getElem? (i := 1325) (by decide +kernel)) rfl)
theorem fl_X8_22 : qFl RX8 22 RX8 TX8 6 := Or.inl (qWA_in (List.mem_of_getElem? (i := 1311) (by decide +kernel)) rfl)
theorem fl_X8_232 : qFl RX8 232 RX8 TX8 21 := Or.inl (qWA_in (List.mem_of_getElem? (i := 1326) (by decide +kernel)) rfl)
theorem fl_X8_253 : qFl RX8 253 RX8 TX8 8 := Or.inl (qWA_in (List.mem_of_getElem? (i := 1313) (by decide +kernel)) rfl)
theorem fl_X8_26 : qFl RX8 26 RX8 TX8 7 := Or.inl (qWA_in (List.mem_of_getElem? (i := 1312) (by decide +kernel)) rfl)
theorem fl_X8_29 : qFl RX8 29 RX8 TX8 9 := Or.inl (qWA_in (List.mem_of_getElem? (i := 1314) (by decide +kernel)) rfl)
theorem fl_X8_32 : qFl RX8 32 RX8 TX8 10 := Or.inl (qWA_in (List.mem_of_getElem? (i := 1315) (by decide +kernel)) rfl)
theorem fl_X8_35 : qFl RX8 35 RX8 TX8 11 := Or.inl (qWA_in (List.mem_of_getElem? (i := 1316) (by decide +kernel)) rfl)
theorem fl_X8_38 : qFl RX8 38 RX8 TX8 12 := Or.inl (qWA_in (List.mem_of_getElem? (i := 1317) (by decide +kernel)) rfl)
theorem fl_X8_41 : qFl RX8 41 RX8 TX8 13 := Or.inl (qWA_in (List.mem_of_getElem? (i := 1318) (by decide +kernel)) rfl)
theorem fl_X8_44 : qFl RX8 44 RX8 TX8 15 := Or.inl (qWA_in (List.mem_of_getElem? (i := 1320) (by decide +kernel)) rfl)
theorem fl_X8_47 : qFl RX8 47 RX8 TX8 22 := Or.inl (qWA_in (List.mem_of_getElem? (i := 1327) (by decide +kernel)) rfl)
theorem fl_X8_50 : qFl RX8 50 RX8 TX8 17 := Or.inl (qWA_in (List.mem_of_getElem? (i := 1322) (by decide +kernel)) rfl)
theorem fl_X8_61 : qFl RX8 61 RX8 TX8 5 := Or.inl (qWA_in (List.mem_of_getElem? (i := 1310) (by decide +kernel)) rfl)
theorem fl_X8_71 : qFl RX8 71 RX8 TX8 4 := Or.inl (qWA_in (List.mem_of_getElem? (i := 1309) (by decide +kernel)) rfl)
theorem fl_X8_9 : qFl RX8 9 RX8 TX8 0 := Or.inl (qWA_in (List.mem_of_getElem? (i := 1305) (by decide +kernel)) rfl)
theorem fl_X4_103 : qFl RX4 103 RX5 TX5 3 := Or.inr ⟨"TaskLeveller", qWA_in (List.mem_of_getElem? (i := 159) (by decide +kernel)) rfl⟩
theorem fl_X4_138 : qFl RX4 138 RX5 TX5 1 := Or.inr ⟨"TaskLeveller", qWA_in (List.mem_of_getElem? (i := 153) (by decide +kernel)) rfl⟩
theorem fl_X4_141 : qFl RX4 141 RX5 TX5 6 := Or.inr ⟨"TaskLeveller", qWA_in (List.mem_of_getElem? (i := 167) (by decide +kernel)) rfl⟩
theorem fl_X4_144 : qFl RX4 144 RX5 TX5 2 := Or.inr ⟨"TaskLeveller", qWA_in (List.mem_of_getElem? (i := 156) (by decide +kernel)) rfl⟩
theorem fl_X4_60 : qFl RX4 60 RX5 TX5 7 := Or.inr ⟨"TaskLeveller", qWA_in (List.mem_of_getElem? (i := 170) (by decide +kernel)) rfl⟩
theorem fl_X4_74 : qFl RX4 74 RX5 TX5 4 := Or.inr ⟨"TaskLeveller", qWA_in (List.mem_of_getElem? (i := 161) (by decide +kernel)) rfl⟩
theorem fl_X4_95 : qFl RX4 95 RX5 TX5 0 := Or.inr ⟨"TaskLeveller", qWA_in (List.mem_of_getElem? (i := 150) (by decide +kernel)) rfl⟩
theorem fl_X7_112 : qFl RX7 112 RX5 TX5 0 := Or.inr ⟨"TaskLeveller", qWA_in (List.mem_of_getElem? (i := 149) (by decide +kernel)) rfl⟩
theorem fl_X7_126 : qFl RX7 126 RX5 TX5 3 := Or.inr ⟨"TaskLeveller", qWA_in (List.mem_of_getElem? (i := 158) (by decide +kernel)) rfl⟩
theorem fl_X7_132 : qFl RX7 132 RX5 TX5 6 := Or.inr ⟨"TaskLeveller", qWA_in (List.mem_of_getElem? (i := 166) (by decide +kernel)) rfl⟩
theorem fl_X7_139 : qFl RX7 139 RX4 TX4 5 := Or.inr ⟨"TaskLeveller", qWA_in (List.mem_of_getElem? (i := 230) (by decide +kernel)) rfl⟩
theorem fl_X7_146 : qFl RX7 146 RX4 TX4 8 := Or.inr ⟨"TaskLeveller", qWA_in (List.mem_of_getElem? (i := 234) (by decide +kernel)) rfl⟩
theorem fl_X7_152 : qFl RX7 152 RX5 TX5 1 := Or.inr ⟨"TaskLeveller", qWA_in (List.mem_of_getElem? (i := 152) (by decide +kernel)) rfl⟩
theorem fl_X7_155 : qFl RX7 155 RX5 TX5 2 := Or.inr ⟨"TaskLeveller", qWA_in (List.mem_of_getElem? (i := 155) (by decide +kernel)) rfl⟩
theorem fl_X7_164 : qFl RX7 164 RX4 TX4 1 := Or.inr ⟨"TaskLeveller", qWA_in (List.mem_of_getElem? (i := 222) (by decide +kernel)) rfl⟩
theorem fl_X7_170 : qFl RX7 170 RX5 TX5 4 := Or.inr ⟨"TaskLeveller", qWA_in (List.mem_of_getElem? (i := 162) (by decide +kernel)) rfl⟩
theorem fl_X7_190 : qFl RX7 190 RX4 TX4 0 := Or.inr ⟨"TaskLeveller", qWA_in (List.mem_of_getElem? (i := 220) (by decide +kernel)) rfl⟩
theorem fl_X7_193 : qFl RX7 193 RX4 TX4 2 := Or.inr ⟨"TaskLeveller", qWA_in (List.mem_of_getElem? (i := 224) (by decide +kernel)) rfl⟩
theorem fl_X7_196 : qFl RX7 196 RX4 TX4 3 := Or.inr ⟨"TaskLeveller", qWA_in (List.mem_of_getElem? (i := 226) (by decide +kernel)) rfl⟩
theorem fl_X7_199 : qFl RX7 199 RX4 TX4 4 := Or.inr ⟨"TaskLeveller", qWA_in (List.mem_of_getElem? (i := 228) (by decide +kernel)) rfl⟩
theorem fl_X7_205 : qFl RX7 205 RX4 TX4 7 := Or.inr ⟨"TaskLeveller", qWA_in (List.mem_of_getElem? (i := 233) (by decide +kernel)) rfl⟩
theorem fl_X7_231 : qFl RX7 231 RX5 TX5 8 := Or.inr ⟨"TaskLeveller", qWA_in (List.mem_of_getElem? (i := 172) (by decide +kernel)) rfl⟩
theorem fl_X7_238 : qFl RX7 238 RX5 TX5 5 := Or.inr ⟨"TaskLeveller", qWA_in (List.mem_of_getElem? (i := 164) (by decide +kernel)) rfl⟩
theorem fl_X7_281 : qFl RX7 281 RX3 TX3 1 := Or.inr ⟨"TaskLeveller", qWA_in (List.mem_of_getElem? (i := 295) (by decide +kernel)) rfl⟩
theorem fl_X7_289 : qFl RX7 289 RX3 TX3 0 := Or.inr ⟨"TaskLeveller", qWA_in (List.mem_of_getElem? (i := 293) (by decide +kernel)) rfl⟩
theorem fl_X7_302 : qFl RX7 302 RX6 TX6 3 := Or.inr ⟨"TaskLeveller", qWA_in (List.mem_of_getElem? (i := 267) (by decide +kernel)) rfl⟩
theorem fl_X7_314 : qFl RX7 314 RX6 TX6 5 := Or.inr ⟨"TaskLeveller", qWA_in (List.mem_of_getElem? (i := 271) (by decide +kernel)) rfl⟩
theorem fl_X7_323 : qFl RX7 323 RX6 TX6 4 := Or.inr ⟨"TaskLeveller", qWA_in (List.mem_of_getElem? (i := 269) (by decide +kernel)) rfl⟩
theorem fl_X7_336 : qFl RX7 336 RX2 TX2 1 := Or.inr ⟨"TaskLeveller", qWA_in (List.mem_of_getElem? (i := 204) (by decide +kernel)) rfl⟩
theorem fl_X7_88 : qFl RX7 88 RX5 TX5 7 := Or.inr ⟨"TaskLeveller", qWA_in (List.mem_of_getElem? (i := 169) (by decide +kernel)) rfl⟩
theorem lk_X2_22 : Cond.methodLink RX2 22 yX2_stateAt ∈ qWA := qWA_in (List.mem_of_getElem? (i := 353) (by decide +kernel)) rfl
theorem lk_X3_19 : Cond.methodLink RX3 19 yX3_write ∈ qWA := qWA_in (List.mem_of_getElem? (i := 1092) (by decide +kernel)) rfl
theorem lk_X4_106 : Cond.methodLink RX4 106 yX4_improve ∈ qWA := qWA_in (List.mem_of_getElem? (i := 414) (by decide +kernel)) rfl
theorem lk_X4_110 : Cond.methodLink RX4 110 yX4_soonestStart ∈ qWA := qWA_in (List.mem_of_getElem? (i := 418) (by decide +kernel)) rfl
theorem lk_X4_123 : Cond.methodLink RX4 123 yX4_mostUrgent ∈ qWA := qWA_in (List.mem_of_getElem? (i := 434) (by decide +kernel)) rfl
theorem lk_X4_127 : Cond.methodLink RX4 127 yX4_lowestFit ∈ qWA := qWA_in (List.mem_of_getElem? (i := 438) (by decide +kernel)) rfl
theorem lk_X4_130 : Cond.methodLink RX4 130 yX4_place ∈ qWA := qWA_in (List.mem_of_getElem? (i := 446) (by decide +kernel)) rfl
theorem lk_X4_134 : Cond.methodLink RX4 134 yX4_fits ∈ qWA := qWA_in (List.mem_of_getElem? (i := 442) (by decide +kernel)) rfl
theorem lk_X4_33 : Cond.methodLink RX4 33 yX4_findOrder ∈ qWA := qWA_in (List.mem_of_getElem? (i := 375) (by decide +kernel)) rfl
theorem lk_X4_37 : Cond.methodLink RX4 37 yX4_findClosure ∈ qWA := qWA_in (List.mem_of_getElem? (i := 392) (by decide +kernel)) rfl
theorem lk_X4_40 : Cond.methodLink RX4 40 yX4_findEarliest ∈ qWA := qWA_in (List.mem_of_getElem? (i := 399) (by decide +kernel)) rfl
theorem lk_X4_43 : Cond.methodLink RX4 43 yX4_findImproved ∈ qWA := qWA_in (List.mem_of_getElem? (i := 410) (by decide +kernel)) rfl
theorem lk_X4_46 : Cond.methodLink RX4 46 yX4_findLatest ∈ qWA := qWA_in (List.mem_of_getElem? (i := 421) (by decide +kernel)) rfl
theorem lk_X4_49 : Cond.methodLink RX4 49 yX4_findLevelled ∈ qWA := qWA_in (List.mem_of_getElem? (i := 430) (by decide +kernel)) rfl
theorem lk_X4_56 : Cond.methodLink RX4 56 yX4_usedOn ∈ qWA := qWA_in (List.mem_of_getElem? (i := 511) (by decide +kernel)) rfl
theorem lk_X4_91 : Cond.methodLink RX4 91 yX4_earliestOf ∈ qWA := qWA_in (List.mem_of_getElem? (i := 404) (by decide +kernel)) rfl
theorem lk_X5_53 : Cond.methodLink RX5 53 yX5_faultOfTask ∈ qWA := qWA_in (List.mem_of_getElem? (i := 720) (by decide +kernel)) rfl
theorem lk_X5_57 : Cond.methodLink RX5 57 yX5_faultOfPair ∈ qWA := qWA_in (List.mem_of_getElem? (i := 716) (by decide +kernel)) rfl
theorem lk_X5_61 : Cond.methodLink RX5 61 yX5_reaches ∈ qWA := qWA_in (List.mem_of_getElem? (i := 721) (by decide +kernel)) rfl
theorem lk_X5_79 : Cond.methodLink RX5 79 yX5_search ∈ qWA := qWA_in (List.mem_of_getElem? (i := 496) (by decide +kernel)) rfl
theorem lk_X6_39 : Cond.methodLink RX6 39 yX6_readCommand ∈ qWA := qWA_in (List.mem_of_getElem? (i := 1139) (by decide +kernel)) rfl
theorem lk_X6_54 : Cond.methodLink RX6 54 yX6_follows ∈ qWA := qWA_in (List.mem_of_getElem? (i := 1145) (by decide +kernel)) rfl
theorem lk_X6_72 : Cond.methodLink RX6 72 yX6_readNumber ∈ qWA := qWA_in (List.mem_of_getElem? (i := 1197) (by decide +kernel)) rfl
theorem lk_X6_76 : Cond.methodLink RX6 76 yX6_isDigitAt ∈ qWA := qWA_in (List.mem_of_getElem? (i := 1201) (by decide +kernel)) rfl
theorem lk_X7_115 : Cond.methodLink RX7 115 yX7_at ∈ qWA := qWA_in (List.mem_of_getElem? (i := 486) (by decide +kernel)) rfl
theorem lk_X7_119 : Cond.methodLink RX7 119 yX7_put ∈ qWA := qWA_in (List.mem_of_getElem? (i := 750) (by decide +kernel)) rfl
theorem lk_X7_135 : Cond.methodLink RX7 135 yX7_currentPlan ∈ qWA := qWA_in (List.mem_of_getElem? (i := 367) (by decide +kernel)) rfl
theorem lk_X7_149 : Cond.methodLink RX7 149 yX7_requireTask ∈ qWA := qWA_in (List.mem_of_getElem? (i := 780) (by decide +kernel)) rfl
theorem lk_X7_158 : Cond.methodLink RX7 158 yX7_requireResource ∈ qWA := qWA_in (List.mem_of_getElem? (i := 812) (by decide +kernel)) rfl
theorem lk_X7_167 : Cond.methodLink RX7 167 yX7_hasBit ∈ qWA := qWA_in (List.mem_of_getElem? (i := 491) (by decide +kernel)) rfl
theorem lk_X7_179 : Cond.methodLink RX7 179 yX7_isWithin ∈ qWA := qWA_in (List.mem_of_getElem? (i := 815) (by decide +kernel)) rfl
theorem lk_X7_210 : Cond.methodLink RX7 210 yX7_requireDay ∈ qWA := qWA_in (List.mem_of_getElem? (i := 939) (by decide +kernel)) rfl
theorem lk_X7_217 : Cond.methodLink RX7 217 yX7_isWorkedOn ∈ qWA := qWA_in (List.mem_of_getElem? (i := 951) (by decide +kernel)) rfl
theorem lk_X7_235 : Cond.methodLink RX7 235 yX7_requireBaselineStart ∈ qWA := qWA_in (List.mem_of_getElem? (i := 990) (by decide +kernel)) rfl
theorem lk_X7_241 : Cond.methodLink RX7 241 yX7_driftOf ∈ qWA := qWA_in (List.mem_of_getElem? (i := 1006) (by decide +kernel)) rfl
theorem lk_X7_253 : Cond.methodLink RX7 253 yX7_sortingKey ∈ qWA := qWA_in (List.mem_of_getElem? (i := 1028) (by decide +kernel)) rfl
theorem lk_X7_256 : Cond.methodLink RX7 256 yX7_taskAtRank ∈ qWA := qWA_in (List.mem_of_getElem? (i := 1031) (by decide +kernel)) rfl
theorem lk_X7_262 : Cond.methodLink RX7 262 yX7_startsAgree ∈ qWA := qWA_in (List.mem_of_getElem? (i := 482) (by decide +kernel)) rfl
theorem lk_X7_266 : Cond.methodLink RX7 266 yX7_dependenciesAgree ∈ qWA := qWA_in (List.mem_of_getElem? (i := 487) (by decide +kernel)) rfl
theorem lk_X7_269 : Cond.methodLink RX7 269 yX7_workloadsAgree ∈ qWA := qWA_in (List.mem_of_getElem? (i := 499) (by decide +kernel)) rfl
theorem lk_X7_293 : Cond.methodLink RX7 293 yX7_charAt ∈ qWA := qWA_in (List.mem_of_getElem? (i := 1112) (by decide +kernel)) rfl
theorem lk_X7_326 : Cond.methodLink RX7 326 yX7_runCommand ∈ qWA := qWA_in (List.mem_of_getElem? (i := 1214) (by decide +kernel)) rfl
theorem lk_X7_333 : Cond.methodLink RX7 333 yX7_requireFailure ∈ qWA := qWA_in (List.mem_of_getElem? (i := 1262) (by decide +kernel)) rfl
theorem lk_X7_375 : Cond.methodLink RX7 375 yX7_runAdding ∈ qWA := qWA_in (List.mem_of_getElem? (i := 1235) (by decide +kernel)) rfl
theorem lk_X7_378 : Cond.methodLink RX7 378 yX7_runSetting ∈ qWA := qWA_in (List.mem_of_getElem? (i := 1239) (by decide +kernel)) rfl
theorem lk_X7_382 : Cond.methodLink RX7 382 yX7_markTrial ∈ qWA := qWA_in (List.mem_of_getElem? (i := 1242) (by decide +kernel)) rfl
theorem lk_X7_385 : Cond.methodLink RX7 385 yX7_countBefore ∈ qWA := qWA_in (List.mem_of_getElem? (i := 1035) (by decide +kernel)) rfl
theorem lk_X7_69 : Cond.methodLink RX7 69 yX7_refuse ∈ qWA := qWA_in (List.mem_of_getElem? (i := 536) (by decide +kernel)) rfl
theorem lk_X7_73 : Cond.methodLink RX7 73 yX7_beginChange ∈ qWA := qWA_in (List.mem_of_getElem? (i := 345) (by decide +kernel)) rfl
theorem lk_L_100 : Cond.methodLink RL 100 yX7_usage ∈ qWA := qWA_in (List.mem_of_getElem? (i := 935) (by decide +kernel)) rfl
theorem lk_L_103 : Cond.methodLink RL 103 yX7_usageByTasks ∈ qWA := qWA_in (List.mem_of_getElem? (i := 947) (by decide +kernel)) rfl
theorem lk_L_106 : Cond.methodLink RL 106 yX7_peakUsage ∈ qWA := qWA_in (List.mem_of_getElem? (i := 958) (by decide +kernel)) rfl
theorem lk_L_109 : Cond.methodLink RL 109 yX7_tasksOn ∈ qWA := qWA_in (List.mem_of_getElem? (i := 965) (by decide +kernel)) rfl
theorem lk_L_112 : Cond.methodLink RL 112 yX7_workload ∈ qWA := qWA_in (List.mem_of_getElem? (i := 972) (by decide +kernel)) rfl
theorem lk_L_115 : Cond.methodLink RL 115 yX7_workloadByDays ∈ qWA := qWA_in (List.mem_of_getElem? (i := 979) (by decide +kernel)) rfl
theorem lk_L_118 : Cond.methodLink RL 118 yX7_baselineStart ∈ qWA := qWA_in (List.mem_of_getElem? (i := 986) (by decide +kernel)) rfl
theorem lk_L_121 : Cond.methodLink RL 121 yX7_drift ∈ qWA := qWA_in (List.mem_of_getElem? (i := 1002) (by decide +kernel)) rfl
theorem lk_L_124 : Cond.methodLink RL 124 yX7_totalDrift ∈ qWA := qWA_in (List.mem_of_getElem? (i := 1013) (by decide +kernel)) rfl
theorem lk_L_127 : Cond.methodLink RL 127 yX7_taskBySlack ∈ qWA := qWA_in (List.mem_of_getElem? (i := 1024) (by decide +kernel)) rfl
theorem lk_L_130 : Cond.methodLink RL 130 yX7_taskByStart ∈ qWA := qWA_in (List.mem_of_getElem? (i := 1043) (by decide +kernel)) rfl
theorem lk_L_133 : Cond.methodLink RL 133 yX7_meanSlack ∈ qWA := qWA_in (List.mem_of_getElem? (i := 1064) (by decide +kernel)) rfl
theorem lk_L_139 : Cond.methodLink RL 139 yX7_utilization ∈ qWA := qWA_in (List.mem_of_getElem? (i := 1073) (by decide +kernel)) rfl
theorem lk_L_143 : Cond.methodLink RL 143 yX7_renderTask ∈ qWA := qWA_in (List.mem_of_getElem? (i := 1080) (by decide +kernel)) rfl
theorem lk_L_146 : Cond.methodLink RL 146 yX7_renderUsage ∈ qWA := qWA_in (List.mem_of_getElem? (i := 1100) (by decide +kernel)) rfl
theorem lk_L_149 : Cond.methodLink RL 149 yX7_outputAt ∈ qWA := qWA_in (List.mem_of_getElem? (i := 1107) (by decide +kernel)) rfl
theorem lk_L_153 : Cond.methodLink RL 153 yX7_type ∈ qWA := qWA_in (List.mem_of_getElem? (i := 1118) (by decide +kernel)) rfl
theorem lk_L_157 : Cond.methodLink RL 157 yX7_runScript ∈ qWA := qWA_in (List.mem_of_getElem? (i := 1131) (by decide +kernel)) rfl
theorem lk_L_160 : Cond.methodLink RL 160 yX7_errorPosition ∈ qWA := qWA_in (List.mem_of_getElem? (i := 1250) (by decide +kernel)) rfl
theorem lk_L_163 : Cond.methodLink RL 163 yX7_failedCommand ∈ qWA := qWA_in (List.mem_of_getElem? (i := 1258) (by decide +kernel)) rfl
theorem lk_L_166 : Cond.methodLink RL 166 yX7_failureReason ∈ qWA := qWA_in (List.mem_of_getElem? (i := 1270) (by decide +kernel)) rfl
theorem lk_L_17 : Cond.methodLink RL 17 yX7_removeTask ∈ qWA := qWA_in (List.mem_of_getElem? (i := 688) (by decide +kernel)) rfl
theorem lk_L_170 : Cond.methodLink RL 170 yX7_undo ∈ qWA := qWA_in (List.mem_of_getElem? (i := 1277) (by decide +kernel)) rfl
theorem lk_L_173 : Cond.methodLink RL 173 yX7_restore ∈ qWA := qWA_in (List.mem_of_getElem? (i := 1290) (by decide +kernel)) rfl
theorem lk_L_180 : Cond.methodLink RL 180 yL_addTask ∈ qWA := qWA_in (List.mem_of_getElem? (i := 520) (by decide +kernel)) rfl
theorem lk_L_185 : Cond.methodLink RL 185 yX8_addTask ∈ qWA := qWA_in (List.mem_of_getElem? (i := 1402) (by decide +kernel)) rfl
theorem lk_L_186 : Cond.methodLink RL 186 yX8_thrown ∈ qWA := qWA_in (List.mem_of_getElem? (i := 1375) (by decide +kernel)) rfl
theorem lk_L_189 : Cond.methodLink RL 189 yL_removeTask ∈ qWA := qWA_in (List.mem_of_getElem? (i := 664) (by decide +kernel)) rfl
theorem lk_L_192 : Cond.methodLink RL 192 yX8_removeTask ∈ qWA := qWA_in (List.mem_of_getElem? (i := 1431) (by decide +kernel)) rfl
theorem lk_L_193 : Cond.methodLink RL 193 yL_addDependency ∈ qWA := qWA_in (List.mem_of_getElem? (i := 704) (by decide +kernel)) rfl
theorem lk_L_196 : Cond.methodLink RL 196 yX8_addDependency ∈ qWA := qWA_in (List.mem_of_getElem? (i := 1443) (by decide +kernel)) rfl
theorem lk_L_197 : Cond.methodLink RL 197 yL_removeDependency ∈ qWA := qWA_in (List.mem_of_getElem? (i := 727) (by decide +kernel)) rfl
theorem lk_L_199 : Cond.methodLink RL 199 yX8_removeDependency ∈ qWA := qWA_in (List.mem_of_getElem? (i := 1467) (by decide +kernel)) rfl
theorem lk_L_200 : Cond.methodLink RL 200 yL_setDuration ∈ qWA := qWA_in (List.mem_of_getElem? (i := 739) (by decide +kernel)) rfl
theorem lk_L_202 : Cond.methodLink RL 202 yX8_setDuration ∈ qWA := qWA_in (List.mem_of_getElem? (i := 1475) (by decide +kernel)) rfl
theorem lk_L_203 : Cond.methodLink RL 203 yL_setRelease ∈ qWA := qWA_in (List.mem_of_getElem? (i := 751) (by decide +kernel)) rfl
theorem lk_L_205 : Cond.methodLink RL 205 yX8_setRelease ∈ qWA := qWA_in (List.mem_of_getElem? (i := 1483) (by decide +kernel)) rfl
theorem lk_L_206 : Cond.methodLink RL 206 yL_setLimit ∈ qWA := qWA_in (List.mem_of_getElem? (i := 762) (by decide +kernel)) rfl
theorem lk_L_208 : Cond.methodLink RL 208 yX8_setLimit ∈ qWA := qWA_in (List.mem_of_getElem? (i := 1487) (by decide +kernel)) rfl
theorem lk_L_209 : Cond.methodLink RL 209 yX7_takeBaseline ∈ qWA := qWA_in (List.mem_of_getElem? (i := 341) (by decide +kernel)) rfl
theorem lk_L_212 : Cond.methodLink RL 212 yX8_takeBaseline ∈ qWA := qWA_in (List.mem_of_getElem? (i := 1495) (by decide +kernel)) rfl
theorem lk_L_213 : Cond.methodLink RL 213 yX7_taskCount ∈ qWA := qWA_in (List.mem_of_getElem? (i := 454) (by decide +kernel)) rfl
theorem lk_L_216 : Cond.methodLink RL 216 yX8_taskCount ∈ qWA := qWA_in (List.mem_of_getElem? (i := 1529) (by decide +kernel)) rfl
theorem lk_L_217 : Cond.methodLink RL 217 yL_duration ∈ qWA := qWA_in (List.mem_of_getElem? (i := 773) (by decide +kernel)) rfl
theorem lk_L_219 : Cond.methodLink RL 219 yX8_duration ∈ qWA := qWA_in (List.mem_of_getElem? (i := 1533) (by decide +kernel)) rfl
theorem lk_L_220 : Cond.methodLink RL 220 yL_resource ∈ qWA := qWA_in (List.mem_of_getElem? (i := 784) (by decide +kernel)) rfl
theorem lk_L_222 : Cond.methodLink RL 222 yX8_resource ∈ qWA := qWA_in (List.mem_of_getElem? (i := 1541) (by decide +kernel)) rfl
theorem lk_L_223 : Cond.methodLink RL 223 yL_demand ∈ qWA := qWA_in (List.mem_of_getElem? (i := 791) (by decide +kernel)) rfl
theorem lk_L_225 : Cond.methodLink RL 225 yX8_demand ∈ qWA := qWA_in (List.mem_of_getElem? (i := 1545) (by decide +kernel)) rfl
theorem lk_L_226 : Cond.methodLink RL 226 yL_release ∈ qWA := qWA_in (List.mem_of_getElem? (i := 798) (by decide +kernel)) rfl
theorem lk_L_228 : Cond.methodLink RL 228 yX8_release ∈ qWA := qWA_in (List.mem_of_getElem? (i := 1549) (by decide +kernel)) rfl
theorem lk_L_229 : Cond.methodLink RL 229 yL_limit ∈ qWA := qWA_in (List.mem_of_getElem? (i := 805) (by decide +kernel)) rfl
theorem lk_L_23 : Cond.methodLink RL 23 yX7_addDependency ∈ qWA := qWA_in (List.mem_of_getElem? (i := 708) (by decide +kernel)) rfl
theorem lk_L_231 : Cond.methodLink RL 231 yX8_limit ∈ qWA := qWA_in (List.mem_of_getElem? (i := 1553) (by decide +kernel)) rfl
theorem lk_L_232 : Cond.methodLink RL 232 yL_dependsDirectly ∈ qWA := qWA_in (List.mem_of_getElem? (i := 817) (by decide +kernel)) rfl
theorem lk_L_234 : Cond.methodLink RL 234 yX8_dependsDirectly ∈ qWA := qWA_in (List.mem_of_getElem? (i := 1557) (by decide +kernel)) rfl
theorem lk_L_235 : Cond.methodLink RL 235 yL_depends ∈ qWA := qWA_in (List.mem_of_getElem? (i := 824) (by decide +kernel)) rfl
theorem lk_L_237 : Cond.methodLink RL 237 yX8_depends ∈ qWA := qWA_in (List.mem_of_getElem? (i := 1561) (by decide +kernel)) rfl
theorem lk_L_238 : Cond.methodLink RL 238 yL_dependsByClosure ∈ qWA := qWA_in (List.mem_of_getElem? (i := 831) (by decide +kernel)) rfl
theorem lk_L_240 : Cond.methodLink RL 240 yX8_dependsByClosure ∈ qWA := qWA_in (List.mem_of_getElem? (i := 1569) (by decide +kernel)) rfl
theorem lk_L_241 : Cond.methodLink RL 241 yL_neededCount ∈ qWA := qWA_in (List.mem_of_getElem? (i := 838) (by decide +kernel)) rfl
theorem lk_L_243 : Cond.methodLink RL 243 yX8_neededCount ∈ qWA := qWA_in (List.mem_of_getElem? (i := 1573) (by decide +kernel)) rfl
theorem lk_L_244 : Cond.methodLink RL 244 yL_dependentCount ∈ qWA := qWA_in (List.mem_of_getElem? (i := 851) (by decide +kernel)) rfl
theorem lk_L_246 : Cond.methodLink RL 246 yX8_dependentCount ∈ qWA := qWA_in (List.mem_of_getElem? (i := 1578) (by decide +kernel)) rfl
theorem lk_L_247 : Cond.methodLink RL 247 yL_taskInOrder ∈ qWA := qWA_in (List.mem_of_getElem? (i := 858) (by decide +kernel)) rfl
theorem lk_L_249 : Cond.methodLink RL 249 yX8_taskInOrder ∈ qWA := qWA_in (List.mem_of_getElem? (i := 1582) (by decide +kernel)) rfl
theorem lk_L_250 : Cond.methodLink RL 250 yL_earliestStart ∈ qWA := qWA_in (List.mem_of_getElem? (i := 882) (by decide +kernel)) rfl
theorem lk_L_252 : Cond.methodLink RL 252 yX8_earliestStart ∈ qWA := qWA_in (List.mem_of_getElem? (i := 1586) (by decide +kernel)) rfl
theorem lk_L_253 : Cond.methodLink RL 253 yL_earliestStartByRounds ∈ qWA := qWA_in (List.mem_of_getElem? (i := 889) (by decide +kernel)) rfl
theorem lk_L_255 : Cond.methodLink RL 255 yX8_earliestStartByRounds ∈ qWA := qWA_in (List.mem_of_getElem? (i := 1594) (by decide +kernel)) rfl
theorem lk_L_256 : Cond.methodLink RL 256 yL_latestStart ∈ qWA := qWA_in (List.mem_of_getElem? (i := 896) (by decide +kernel)) rfl
theorem lk_L_258 : Cond.methodLink RL 258 yX8_latestStart ∈ qWA := qWA_in (List.mem_of_getElem? (i := 1598) (by decide +kernel)) rfl
theorem lk_L_259 : Cond.methodLink RL 259 yL_slack ∈ qWA := qWA_in (List.mem_of_getElem? (i := 903) (by decide +kernel)) rfl
theorem lk_L_261 : Cond.methodLink RL 261 yX8_slack ∈ qWA := qWA_in (List.mem_of_getElem? (i := 1602) (by decide +kernel)) rfl
theorem lk_L_262 : Cond.methodLink RL 262 yL_isCritical ∈ qWA := qWA_in (List.mem_of_getElem? (i := 910) (by decide +kernel)) rfl
theorem lk_L_264 : Cond.methodLink RL 264 yX8_isCritical ∈ qWA := qWA_in (List.mem_of_getElem? (i := 1606) (by decide +kernel)) rfl
theorem lk_L_265 : Cond.methodLink RL 265 yX7_projectLength ∈ qWA := qWA_in (List.mem_of_getElem? (i := 458) (by decide +kernel)) rfl
theorem lk_L_268 : Cond.methodLink RL 268 yX8_projectLength ∈ qWA := qWA_in (List.mem_of_getElem? (i := 1610) (by decide +kernel)) rfl
theorem lk_L_269 : Cond.methodLink RL 269 yX7_criticalCount ∈ qWA := qWA_in (List.mem_of_getElem? (i := 462) (by decide +kernel)) rfl
theorem lk_L_272 : Cond.methodLink RL 272 yX8_criticalCount ∈ qWA := qWA_in (List.mem_of_getElem? (i := 1614) (by decide +kernel)) rfl
theorem lk_L_273 : Cond.methodLink RL 273 yL_lastTask ∈ qWA := qWA_in (List.mem_of_getElem? (i := 917) (by decide +kernel)) rfl
theorem lk_L_276 : Cond.methodLink RL 276 yX8_lastTask ∈ qWA := qWA_in (List.mem_of_getElem? (i := 1618) (by decide +kernel)) rfl
theorem lk_L_277 : Cond.methodLink RL 277 yL_levelledStart ∈ qWA := qWA_in (List.mem_of_getElem? (i := 925) (by decide +kernel)) rfl
theorem lk_L_279 : Cond.methodLink RL 279 yX8_levelledStart ∈ qWA := qWA_in (List.mem_of_getElem? (i := 1622) (by decide +kernel)) rfl
theorem lk_L_280 : Cond.methodLink RL 280 yX7_levelledLength ∈ qWA := qWA_in (List.mem_of_getElem? (i := 470) (by decide +kernel)) rfl
theorem lk_L_283 : Cond.methodLink RL 283 yX8_levelledLength ∈ qWA := qWA_in (List.mem_of_getElem? (i := 1626) (by decide +kernel)) rfl
theorem lk_L_284 : Cond.methodLink RL 284 yL_usage ∈ qWA := qWA_in (List.mem_of_getElem? (i := 932) (by decide +kernel)) rfl
theorem lk_L_286 : Cond.methodLink RL 286 yX8_usage ∈ qWA := qWA_in (List.mem_of_getElem? (i := 1630) (by decide +kernel)) rfl
theorem lk_L_287 : Cond.methodLink RL 287 yL_usageByTasks ∈ qWA := qWA_in (List.mem_of_getElem? (i := 944) (by decide +kernel)) rfl
theorem lk_L_289 : Cond.methodLink RL 289 yX8_usageByTasks ∈ qWA := qWA_in (List.mem_of_getElem? (i := 1638) (by decide +kernel)) rfl
theorem lk_L_29 : Cond.methodLink RL 29 yX7_removeDependency ∈ qWA := qWA_in (List.mem_of_getElem? (i := 730) (by decide +kernel)) rfl
theorem lk_L_290 : Cond.methodLink RL 290 yL_peakUsage ∈ qWA := qWA_in (List.mem_of_getElem? (i := 955) (by decide +kernel)) rfl
theorem lk_L_292 : Cond.methodLink RL 292 yX8_peakUsage ∈ qWA := qWA_in (List.mem_of_getElem? (i := 1642) (by decide +kernel)) rfl
theorem lk_L_293 : Cond.methodLink RL 293 yL_tasksOn ∈ qWA := qWA_in (List.mem_of_getElem? (i := 962) (by decide +kernel)) rfl
theorem lk_L_295 : Cond.methodLink RL 295 yX8_tasksOn ∈ qWA := qWA_in (List.mem_of_getElem? (i := 1646) (by decide +kernel)) rfl
theorem lk_L_296 : Cond.methodLink RL 296 yL_workload ∈ qWA := qWA_in (List.mem_of_getElem? (i := 969) (by decide +kernel)) rfl
theorem lk_L_298 : Cond.methodLink RL 298 yX8_workload ∈ qWA := qWA_in (List.mem_of_getElem? (i := 1650) (by decide +kernel)) rfl
theorem lk_L_299 : Cond.methodLink RL 299 yL_workloadByDays ∈ qWA := qWA_in (List.mem_of_getElem? (i := 976) (by decide +kernel)) rfl
theorem lk_L_301 : Cond.methodLink RL 301 yX8_workloadByDays ∈ qWA := qWA_in (List.mem_of_getElem? (i := 1658) (by decide +kernel)) rfl
theorem lk_L_302 : Cond.methodLink RL 302 yX7_hasBaseline ∈ qWA := qWA_in (List.mem_of_getElem? (i := 474) (by decide +kernel)) rfl
theorem lk_L_306 : Cond.methodLink RL 306 yX8_hasBaseline ∈ qWA := qWA_in (List.mem_of_getElem? (i := 1662) (by decide +kernel)) rfl
theorem lk_L_307 : Cond.methodLink RL 307 yL_baselineStart ∈ qWA := qWA_in (List.mem_of_getElem? (i := 983) (by decide +kernel)) rfl
theorem lk_L_309 : Cond.methodLink RL 309 yX8_baselineStart ∈ qWA := qWA_in (List.mem_of_getElem? (i := 1666) (by decide +kernel)) rfl
theorem lk_L_310 : Cond.methodLink RL 310 yL_drift ∈ qWA := qWA_in (List.mem_of_getElem? (i := 999) (by decide +kernel)) rfl
theorem lk_L_312 : Cond.methodLink RL 312 yX8_drift ∈ qWA := qWA_in (List.mem_of_getElem? (i := 1670) (by decide +kernel)) rfl
theorem lk_L_313 : Cond.methodLink RL 313 yL_totalDrift ∈ qWA := qWA_in (List.mem_of_getElem? (i := 1010) (by decide +kernel)) rfl
theorem lk_L_315 : Cond.methodLink RL 315 yX8_totalDrift ∈ qWA := qWA_in (List.mem_of_getElem? (i := 1674) (by decide +kernel)) rfl
theorem lk_L_316 : Cond.methodLink RL 316 yL_taskBySlack ∈ qWA := qWA_in (List.mem_of_getElem? (i := 1021) (by decide +kernel)) rfl
theorem lk_L_318 : Cond.methodLink RL 318 yX8_taskBySlack ∈ qWA := qWA_in (List.mem_of_getElem? (i := 1679) (by decide +kernel)) rfl
theorem lk_L_319 : Cond.methodLink RL 319 yL_taskByStart ∈ qWA := qWA_in (List.mem_of_getElem? (i := 1040) (by decide +kernel)) rfl
theorem lk_L_32 : Cond.methodLink RL 32 yX7_setDuration ∈ qWA := qWA_in (List.mem_of_getElem? (i := 742) (by decide +kernel)) rfl
theorem lk_L_321 : Cond.methodLink RL 321 yX8_taskByStart ∈ qWA := qWA_in (List.mem_of_getElem? (i := 1683) (by decide +kernel)) rfl
theorem lk_L_322 : Cond.methodLink RL 322 yL_meanSlack ∈ qWA := qWA_in (List.mem_of_getElem? (i := 1047) (by decide +kernel)) rfl
theorem lk_L_325 : Cond.methodLink RL 325 yX8_meanSlack ∈ qWA := qWA_in (List.mem_of_getElem? (i := 1687) (by decide +kernel)) rfl
theorem lk_L_326 : Cond.methodLink RL 326 yL_utilization ∈ qWA := qWA_in (List.mem_of_getElem? (i := 1070) (by decide +kernel)) rfl
theorem lk_L_329 : Cond.methodLink RL 329 yX8_utilization ∈ qWA := qWA_in (List.mem_of_getElem? (i := 1691) (by decide +kernel)) rfl
theorem lk_L_330 : Cond.methodLink RL 330 yX7_isConsistent ∈ qWA := qWA_in (List.mem_of_getElem? (i := 478) (by decide +kernel)) rfl
theorem lk_L_333 : Cond.methodLink RL 333 yX8_isConsistent ∈ qWA := qWA_in (List.mem_of_getElem? (i := 1695) (by decide +kernel)) rfl
theorem lk_L_334 : Cond.methodLink RL 334 yL_renderTask ∈ qWA := qWA_in (List.mem_of_getElem? (i := 1077) (by decide +kernel)) rfl
theorem lk_L_336 : Cond.methodLink RL 336 yX8_renderTask ∈ qWA := qWA_in (List.mem_of_getElem? (i := 1699) (by decide +kernel)) rfl
theorem lk_L_337 : Cond.methodLink RL 337 yL_renderUsage ∈ qWA := qWA_in (List.mem_of_getElem? (i := 1097) (by decide +kernel)) rfl
theorem lk_L_339 : Cond.methodLink RL 339 yX8_renderUsage ∈ qWA := qWA_in (List.mem_of_getElem? (i := 1711) (by decide +kernel)) rfl
theorem lk_L_340 : Cond.methodLink RL 340 yL_outputAt ∈ qWA := qWA_in (List.mem_of_getElem? (i := 1104) (by decide +kernel)) rfl
theorem lk_L_342 : Cond.methodLink RL 342 yX8_outputAt ∈ qWA := qWA_in (List.mem_of_getElem? (i := 1715) (by decide +kernel)) rfl
theorem lk_L_343 : Cond.methodLink RL 343 yL_type ∈ qWA := qWA_in (List.mem_of_getElem? (i := 1115) (by decide +kernel)) rfl
theorem lk_L_346 : Cond.methodLink RL 346 yX8_type ∈ qWA := qWA_in (List.mem_of_getElem? (i := 1719) (by decide +kernel)) rfl
theorem lk_L_347 : Cond.methodLink RL 347 yL_runScript ∈ qWA := qWA_in (List.mem_of_getElem? (i := 1128) (by decide +kernel)) rfl
theorem lk_L_349 : Cond.methodLink RL 349 yX8_runScript ∈ qWA := qWA_in (List.mem_of_getElem? (i := 1723) (by decide +kernel)) rfl
theorem lk_L_350 : Cond.methodLink RL 350 yL_errorPosition ∈ qWA := qWA_in (List.mem_of_getElem? (i := 1247) (by decide +kernel)) rfl
theorem lk_L_352 : Cond.methodLink RL 352 yX8_errorPosition ∈ qWA := qWA_in (List.mem_of_getElem? (i := 1776) (by decide +kernel)) rfl
theorem lk_L_353 : Cond.methodLink RL 353 yL_failedCommand ∈ qWA := qWA_in (List.mem_of_getElem? (i := 1255) (by decide +kernel)) rfl
theorem lk_L_355 : Cond.methodLink RL 355 yX8_failedCommand ∈ qWA := qWA_in (List.mem_of_getElem? (i := 1780) (by decide +kernel)) rfl
theorem lk_L_356 : Cond.methodLink RL 356 yL_failureReason ∈ qWA := qWA_in (List.mem_of_getElem? (i := 1267) (by decide +kernel)) rfl
theorem lk_L_358 : Cond.methodLink RL 358 yX8_failureReason ∈ qWA := qWA_in (List.mem_of_getElem? (i := 1784) (by decide +kernel)) rfl
theorem lk_L_359 : Cond.methodLink RL 359 yL_undo ∈ qWA := qWA_in (List.mem_of_getElem? (i := 1274) (by decide +kernel)) rfl
theorem lk_L_36 : Cond.methodLink RL 36 yX7_setRelease ∈ qWA := qWA_in (List.mem_of_getElem? (i := 754) (by decide +kernel)) rfl
theorem lk_L_361 : Cond.methodLink RL 361 yX8_undo ∈ qWA := qWA_in (List.mem_of_getElem? (i := 1379) (by decide +kernel)) rfl
theorem lk_L_362 : Cond.methodLink RL 362 yX7_save ∈ qWA := qWA_in (List.mem_of_getElem? (i := 515) (by decide +kernel)) rfl
theorem lk_L_365 : Cond.methodLink RL 365 yX8_save ∈ qWA := qWA_in (List.mem_of_getElem? (i := 1394) (by decide +kernel)) rfl
theorem lk_L_366 : Cond.methodLink RL 366 yL_restore ∈ qWA := qWA_in (List.mem_of_getElem? (i := 1287) (by decide +kernel)) rfl
theorem lk_L_368 : Cond.methodLink RL 368 yX8_restore ∈ qWA := qWA_in (List.mem_of_getElem? (i := 1398) (by decide +kernel)) rfl
theorem lk_L_39 : Cond.methodLink RL 39 yX7_setLimit ∈ qWA := qWA_in (List.mem_of_getElem? (i := 765) (by decide +kernel)) rfl
theorem lk_L_42 : Cond.methodLink RL 42 yX7_duration ∈ qWA := qWA_in (List.mem_of_getElem? (i := 776) (by decide +kernel)) rfl
theorem lk_L_45 : Cond.methodLink RL 45 yX7_resource ∈ qWA := qWA_in (List.mem_of_getElem? (i := 787) (by decide +kernel)) rfl
theorem lk_L_48 : Cond.methodLink RL 48 yX7_demand ∈ qWA := qWA_in (List.mem_of_getElem? (i := 794) (by decide +kernel)) rfl
theorem lk_L_51 : Cond.methodLink RL 51 yX7_release ∈ qWA := qWA_in (List.mem_of_getElem? (i := 801) (by decide +kernel)) rfl
theorem lk_L_54 : Cond.methodLink RL 54 yX7_limit ∈ qWA := qWA_in (List.mem_of_getElem? (i := 808) (by decide +kernel)) rfl
theorem lk_L_57 : Cond.methodLink RL 57 yX7_dependsDirectly ∈ qWA := qWA_in (List.mem_of_getElem? (i := 820) (by decide +kernel)) rfl
theorem lk_L_60 : Cond.methodLink RL 60 yX7_depends ∈ qWA := qWA_in (List.mem_of_getElem? (i := 827) (by decide +kernel)) rfl
theorem lk_L_63 : Cond.methodLink RL 63 yX7_dependsByClosure ∈ qWA := qWA_in (List.mem_of_getElem? (i := 834) (by decide +kernel)) rfl
theorem lk_L_66 : Cond.methodLink RL 66 yX7_neededCount ∈ qWA := qWA_in (List.mem_of_getElem? (i := 841) (by decide +kernel)) rfl
theorem lk_L_69 : Cond.methodLink RL 69 yX7_dependentCount ∈ qWA := qWA_in (List.mem_of_getElem? (i := 854) (by decide +kernel)) rfl
theorem lk_L_7 : Cond.methodLink RL 7 yX7_addTask ∈ qWA := qWA_in (List.mem_of_getElem? (i := 525) (by decide +kernel)) rfl
theorem lk_L_72 : Cond.methodLink RL 72 yX7_taskInOrder ∈ qWA := qWA_in (List.mem_of_getElem? (i := 862) (by decide +kernel)) rfl
theorem lk_L_77 : Cond.methodLink RL 77 yX7_earliestStart ∈ qWA := qWA_in (List.mem_of_getElem? (i := 885) (by decide +kernel)) rfl
theorem lk_L_80 : Cond.methodLink RL 80 yX7_earliestStartByRounds ∈ qWA := qWA_in (List.mem_of_getElem? (i := 892) (by decide +kernel)) rfl
theorem lk_L_83 : Cond.methodLink RL 83 yX7_latestStart ∈ qWA := qWA_in (List.mem_of_getElem? (i := 899) (by decide +kernel)) rfl
theorem lk_L_86 : Cond.methodLink RL 86 yX7_slack ∈ qWA := qWA_in (List.mem_of_getElem? (i := 906) (by decide +kernel)) rfl
theorem lk_L_89 : Cond.methodLink RL 89 yX7_isCritical ∈ qWA := qWA_in (List.mem_of_getElem? (i := 913) (by decide +kernel)) rfl
theorem lk_L_93 : Cond.methodLink RL 93 yX7_lastTask ∈ qWA := qWA_in (List.mem_of_getElem? (i := 920) (by decide +kernel)) rfl
theorem lk_L_97 : Cond.methodLink RL 97 yX7_levelledStart ∈ qWA := qWA_in (List.mem_of_getElem? (i := 928) (by decide +kernel)) rfl
theorem lk_X8_100 : Cond.methodLink RX8 100 yX8_adds ∈ qWA := qWA_in (List.mem_of_getElem? (i := 1410) (by decide +kernel)) rfl
theorem lk_X8_104 : Cond.methodLink RX8 104 yX8_ends ∈ qWA := qWA_in (List.mem_of_getElem? (i := 1423) (by decide +kernel)) rfl
theorem lk_X8_107 : Cond.methodLink RX8 107 yX8_removes ∈ qWA := qWA_in (List.mem_of_getElem? (i := 1435) (by decide +kernel)) rfl
theorem lk_X8_110 : Cond.methodLink RX8 110 yX8_doesDepend ∈ qWA := qWA_in (List.mem_of_getElem? (i := 1451) (by decide +kernel)) rfl
theorem lk_X8_114 : Cond.methodLink RX8 114 yX8_isNeeded ∈ qWA := qWA_in (List.mem_of_getElem? (i := 1463) (by decide +kernel)) rfl
theorem lk_X8_117 : Cond.methodLink RX8 117 yX8_links ∈ qWA := qWA_in (List.mem_of_getElem? (i := 1447) (by decide +kernel)) rfl
theorem lk_X8_120 : Cond.methodLink RX8 120 yX8_unlinks ∈ qWA := qWA_in (List.mem_of_getElem? (i := 1471) (by decide +kernel)) rfl
theorem lk_X8_123 : Cond.methodLink RX8 123 yX8_sets ∈ qWA := qWA_in (List.mem_of_getElem? (i := 1479) (by decide +kernel)) rfl
theorem lk_X8_127 : Cond.methodLink RX8 127 yX8_limits ∈ qWA := qWA_in (List.mem_of_getElem? (i := 1491) (by decide +kernel)) rfl
theorem lk_X8_130 : Cond.methodLink RX8 130 yX8_levels ∈ qWA := qWA_in (List.mem_of_getElem? (i := 1503) (by decide +kernel)) rfl
theorem lk_X8_133 : Cond.methodLink RX8 133 yX8_lastOf ∈ qWA := qWA_in (List.mem_of_getElem? (i := 1516) (by decide +kernel)) rfl
theorem lk_X8_137 : Cond.methodLink RX8 137 yX8_marks ∈ qWA := qWA_in (List.mem_of_getElem? (i := 1499) (by decide +kernel)) rfl
theorem lk_X8_146 : Cond.methodLink RX8 146 yX8_soonest ∈ qWA := qWA_in (List.mem_of_getElem? (i := 1511) (by decide +kernel)) rfl
theorem lk_X8_150 : Cond.methodLink RX8 150 yX8_puts ∈ qWA := qWA_in (List.mem_of_getElem? (i := 1520) (by decide +kernel)) rfl
theorem lk_X8_157 : Cond.methodLink RX8 157 yX8_starts ∈ qWA := qWA_in (List.mem_of_getElem? (i := 1507) (by decide +kernel)) rfl
theorem lk_X8_160 : Cond.methodLink RX8 160 yX8_hasRoom ∈ qWA := qWA_in (List.mem_of_getElem? (i := 1525) (by decide +kernel)) rfl
theorem lk_X8_163 : Cond.methodLink RX8 163 yX8_asks ∈ qWA := qWA_in (List.mem_of_getElem? (i := 1537) (by decide +kernel)) rfl
theorem lk_X8_166 : Cond.methodLink RX8 166 yX8_isBehind ∈ qWA := qWA_in (List.mem_of_getElem? (i := 1565) (by decide +kernel)) rfl
theorem lk_X8_174 : Cond.methodLink RX8 174 yX8_early ∈ qWA := qWA_in (List.mem_of_getElem? (i := 1590) (by decide +kernel)) rfl
theorem lk_X8_176 : Cond.methodLink RX8 176 yX8_usageOn ∈ qWA := qWA_in (List.mem_of_getElem? (i := 1634) (by decide +kernel)) rfl
theorem lk_X8_179 : Cond.methodLink RX8 179 yX8_work ∈ qWA := qWA_in (List.mem_of_getElem? (i := 1654) (by decide +kernel)) rfl
theorem lk_X8_185 : Cond.methodLink RX8 185 yX8_put ∈ qWA := qWA_in (List.mem_of_getElem? (i := 1707) (by decide +kernel)) rfl
theorem lk_X8_188 : Cond.methodLink RX8 188 yX8_writesNumber ∈ qWA := qWA_in (List.mem_of_getElem? (i := 1703) (by decide +kernel)) rfl
theorem lk_X8_206 : Cond.methodLink RX8 206 yX8_letterHere ∈ qWA := qWA_in (List.mem_of_getElem? (i := 1756) (by decide +kernel)) rfl
theorem lk_X8_209 : Cond.methodLink RX8 209 yX8_reads ∈ qWA := qWA_in (List.mem_of_getElem? (i := 1752) (by decide +kernel)) rfl
theorem lk_X8_212 : Cond.methodLink RX8 212 yX8_digit ∈ qWA := qWA_in (List.mem_of_getElem? (i := 1748) (by decide +kernel)) rfl
theorem lk_X8_215 : Cond.methodLink RX8 215 yX8_startOf ∈ qWA := qWA_in (List.mem_of_getElem? (i := 1739) (by decide +kernel)) rfl
theorem lk_X8_226 : Cond.methodLink RX8 226 yX8_sign ∈ qWA := qWA_in (List.mem_of_getElem? (i := 1760) (by decide +kernel)) rfl
theorem lk_X8_229 : Cond.methodLink RX8 229 yX8_number ∈ qWA := qWA_in (List.mem_of_getElem? (i := 1764) (by decide +kernel)) rfl
theorem lk_X8_235 : Cond.methodLink RX8 235 yX8_kindHere ∈ qWA := qWA_in (List.mem_of_getElem? (i := 1735) (by decide +kernel)) rfl
theorem lk_X8_238 : Cond.methodLink RX8 238 yX8_readsTask ∈ qWA := qWA_in (List.mem_of_getElem? (i := 1744) (by decide +kernel)) rfl
theorem lk_X8_241 : Cond.methodLink RX8 241 yX8_readsCommand ∈ qWA := qWA_in (List.mem_of_getElem? (i := 1731) (by decide +kernel)) rfl
theorem lk_X8_244 : Cond.methodLink RX8 244 yX8_readsAll ∈ qWA := qWA_in (List.mem_of_getElem? (i := 1727) (by decide +kernel)) rfl
theorem lk_X8_247 : Cond.methodLink RX8 247 yX8_does ∈ qWA := qWA_in (List.mem_of_getElem? (i := 1768) (by decide +kernel)) rfl
theorem lk_X8_250 : Cond.methodLink RX8 250 yX8_letterFor ∈ qWA := qWA_in (List.mem_of_getElem? (i := 1772) (by decide +kernel)) rfl
theorem lk_X8_53 : Cond.methodLink RX8 53 yX8_holds ∈ qWA := qWA_in (List.mem_of_getElem? (i := 1387) (by decide +kernel)) rfl
theorem lk_X8_57 : Cond.methodLink RX8 57 yX8_copies ∈ qWA := qWA_in (List.mem_of_getElem? (i := 1391) (by decide +kernel)) rfl
theorem lk_X8_64 : Cond.methodLink RX8 64 yX8_remembers ∈ qWA := qWA_in (List.mem_of_getElem? (i := 1427) (by decide +kernel)) rfl
theorem lk_X8_67 : Cond.methodLink RX8 67 yX8_goes ∈ qWA := qWA_in (List.mem_of_getElem? (i := 1383) (by decide +kernel)) rfl
theorem lk_X8_75 : Cond.methodLink RX8 75 yX8_isIn ∈ qWA := qWA_in (List.mem_of_getElem? (i := 1414) (by decide +kernel)) rfl
theorem lk_X8_79 : Cond.methodLink RX8 79 yX8_isTask ∈ qWA := qWA_in (List.mem_of_getElem? (i := 1439) (by decide +kernel)) rfl
theorem lk_X8_83 : Cond.methodLink RX8 83 yX8_taskAt ∈ qWA := qWA_in (List.mem_of_getElem? (i := 1420) (by decide +kernel)) rfl
theorem lk_X8_87 : Cond.methodLink RX8 87 yX8_of ∈ qWA := qWA_in (List.mem_of_getElem? (i := 1459) (by decide +kernel)) rfl
theorem lk_X8_91 : Cond.methodLink RX8 91 yX8_needsOf ∈ qWA := qWA_in (List.mem_of_getElem? (i := 1455) (by decide +kernel)) rfl
theorem lk_X8_94 : Cond.methodLink RX8 94 yX8_isResource ∈ qWA := qWA_in (List.mem_of_getElem? (i := 1417) (by decide +kernel)) rfl
theorem lk_X8_97 : Cond.methodLink RX8 97 yX8_begins ∈ qWA := qWA_in (List.mem_of_getElem? (i := 1406) (by decide +kernel)) rfl
theorem lk_X2_26 : ∃ host : String, Cond.methodLinkNest RX2 26 yX5_copyFrom host ∈ qWA := ⟨"TaskLeveller", qWA_in (List.mem_of_getElem? (i := 357) (by decide +kernel)) rfl⟩
theorem lk_X4_114 : ∃ host : String, Cond.methodLinkNest RX4 114 yX5_isLinked host ∈ qWA := ⟨"TaskLeveller", qWA_in (List.mem_of_getElem? (i := 425) (by decide +kernel)) rfl⟩
theorem lk_X4_52 : ∃ host : String, Cond.methodLinkNest RX4 52 yX7_at host ∈ qWA := ⟨"TaskLeveller", qWA_in (List.mem_of_getElem? (i := 397) (by decide +kernel)) rfl⟩
theorem lk_X4_66 : ∃ host : String, Cond.methodLinkNest RX4 66 yX5_isReady host ∈ qWA := ⟨"TaskLeveller", qWA_in (List.mem_of_getElem? (i := 379) (by decide +kernel)) rfl⟩
theorem lk_X4_70 : ∃ host : String, Cond.methodLinkNest RX4 70 yX7_put host ∈ qWA := ⟨"TaskLeveller", qWA_in (List.mem_of_getElem? (i := 389) (by decide +kernel)) rfl⟩
theorem lk_X4_77 : ∃ host : String, Cond.methodLinkNest RX4 77 yX7_copyRow host ∈ qWA := ⟨"TaskLeveller", qWA_in (List.mem_of_getElem? (i := 396) (by decide +kernel)) rfl⟩
theorem lk_X4_81 : ∃ host : String, Cond.methodLinkNest RX4 81 yX7_hasBit host ∈ qWA := ⟨"TaskLeveller", qWA_in (List.mem_of_getElem? (i := 398) (by decide +kernel)) rfl⟩
theorem lk_X4_84 : ∃ host : String, Cond.methodLinkNest RX4 84 yX7_fillRow host ∈ qWA := ⟨"TaskLeveller", qWA_in (List.mem_of_getElem? (i := 403) (by decide +kernel)) rfl⟩
theorem lk_X5_33 : ∃ host : String, Cond.methodLinkNest RX5 33 yX7_fillRow host ∈ qWA := ⟨"TaskLeveller", qWA_in (List.mem_of_getElem? (i := 145) (by decide +kernel)) rfl⟩
theorem lk_X5_37 : ∃ host : String, Cond.methodLinkNest RX5 37 yX7_copyRow host ∈ qWA := ⟨"TaskLeveller", qWA_in (List.mem_of_getElem? (i := 361) (by decide +kernel)) rfl⟩
theorem lk_X5_49 : ∃ host : String, Cond.methodLinkNest RX5 49 yX7_isWithin host ∈ qWA := ⟨"TaskLeveller", qWA_in (List.mem_of_getElem? (i := 533) (by decide +kernel)) rfl⟩
theorem lk_X5_65 : ∃ host : String, Cond.methodLinkNest RX5 65 yX7_put host ∈ qWA := ⟨"TaskLeveller", qWA_in (List.mem_of_getElem? (i := 663) (by decide +kernel)) rfl⟩
theorem lk_X5_69 : ∃ host : String, Cond.methodLinkNest RX5 69 yX7_closeGap host ∈ qWA := ⟨"TaskLeveller", qWA_in (List.mem_of_getElem? (i := 700) (by decide +kernel)) rfl⟩
theorem lk_X5_72 : ∃ host : String, Cond.methodLinkNest RX5 72 yX7_at host ∈ qWA := ⟨"TaskLeveller", qWA_in (List.mem_of_getElem? (i := 386) (by decide +kernel)) rfl⟩
theorem lk_X5_76 : ∃ host : String, Cond.methodLinkNest RX5 76 yX7_hasBit host ∈ qWA := ⟨"TaskLeveller", qWA_in (List.mem_of_getElem? (i := 383) (by decide +kernel)) rfl⟩
theorem lk_X6_29 : ∃ host : String, Cond.methodLinkNest RX6 29 yX7_at host ∈ qWA := ⟨"TaskLeveller", qWA_in (List.mem_of_getElem? (i := 1226) (by decide +kernel)) rfl⟩
theorem lk_X6_43 : ∃ host : String, Cond.methodLinkNest RX6 43 yX7_charAt host ∈ qWA := ⟨"TaskLeveller", qWA_in (List.mem_of_getElem? (i := 1205) (by decide +kernel)) rfl⟩
theorem lk_X6_80 : ∃ host : String, Cond.methodLinkNest RX6 80 yX7_put host ∈ qWA := ⟨"TaskLeveller", qWA_in (List.mem_of_getElem? (i := 1207) (by decide +kernel)) rfl⟩
theorem lk_X6_84 : ∃ host : String, Cond.methodLinkNest RX6 84 yX7_isWithin host ∈ qWA := ⟨"TaskLeveller", qWA_in (List.mem_of_getElem? (i := 1206) (by decide +kernel)) rfl⟩
theorem lk_X7_103 : ∃ host : String, Cond.methodLinkNest RX7 103 yX5_faultOfPair host ∈ qWA := ⟨"TaskLeveller", qWA_in (List.mem_of_getElem? (i := 734) (by decide +kernel)) rfl⟩
theorem lk_X7_106 : ∃ host : String, Cond.methodLinkNest RX7 106 yX5_unlink host ∈ qWA := ⟨"TaskLeveller", qWA_in (List.mem_of_getElem? (i := 735) (by decide +kernel)) rfl⟩
theorem lk_X7_109 : ∃ host : String, Cond.methodLinkNest RX7 109 yX5_faultOfDuration host ∈ qWA := ⟨"TaskLeveller", qWA_in (List.mem_of_getElem? (i := 746) (by decide +kernel)) rfl⟩
theorem lk_X7_123 : ∃ host : String, Cond.methodLinkNest RX7 123 yX5_faultOfRelease host ∈ qWA := ⟨"TaskLeveller", qWA_in (List.mem_of_getElem? (i := 758) (by decide +kernel)) rfl⟩
theorem lk_X7_129 : ∃ host : String, Cond.methodLinkNest RX7 129 yX5_faultOfLimit host ∈ qWA := ⟨"TaskLeveller", qWA_in (List.mem_of_getElem? (i := 769) (by decide +kernel)) rfl⟩
theorem lk_X7_142 : ∃ host : String, Cond.methodLinkNest RX7 142 yX5_takeStarts host ∈ qWA := ⟨"TaskLeveller", qWA_in (List.mem_of_getElem? (i := 450) (by decide +kernel)) rfl⟩
theorem lk_X7_161 : ∃ host : String, Cond.methodLinkNest RX7 161 yX5_reaches host ∈ qWA := ⟨"TaskLeveller", qWA_in (List.mem_of_getElem? (i := 492) (by decide +kernel)) rfl⟩
theorem lk_X7_202 : ∃ host : String, Cond.methodLinkNest RX7 202 yX4_slackOf host ∈ qWA := ⟨"TaskLeveller", qWA_in (List.mem_of_getElem? (i := 466) (by decide +kernel)) rfl⟩
theorem lk_X7_213 : ∃ host : String, Cond.methodLinkNest RX7 213 yX4_usedOn host ∈ qWA := ⟨"TaskLeveller", qWA_in (List.mem_of_getElem? (i := 943) (by decide +kernel)) rfl⟩
theorem lk_X7_225 : ∃ host : String, Cond.methodLinkNest RX7 225 yX5_workOf host ∈ qWA := ⟨"TaskLeveller", qWA_in (List.mem_of_getElem? (i := 503) (by decide +kernel)) rfl⟩
theorem lk_X7_228 : ∃ host : String, Cond.methodLinkNest RX7 228 yX4_workOnAllDays host ∈ qWA := ⟨"TaskLeveller", qWA_in (List.mem_of_getElem? (i := 507) (by decide +kernel)) rfl⟩
theorem lk_X7_246 : ∃ host : String, Cond.methodLinkNest RX7 246 yX5_hasStart host ∈ qWA := ⟨"TaskLeveller", qWA_in (List.mem_of_getElem? (i := 994) (by decide +kernel)) rfl⟩
theorem lk_X7_272 : ∃ host : String, Cond.methodLinkNest RX7 272 yX3_clear host ∈ qWA := ⟨"TaskLeveller", qWA_in (List.mem_of_getElem? (i := 1084) (by decide +kernel)) rfl⟩
theorem lk_X7_275 : ∃ host : String, Cond.methodLinkNest RX7 275 yX3_writeNumber host ∈ qWA := ⟨"TaskLeveller", qWA_in (List.mem_of_getElem? (i := 1088) (by decide +kernel)) rfl⟩
theorem lk_X7_278 : ∃ host : String, Cond.methodLinkNest RX7 278 yX3_write host ∈ qWA := ⟨"TaskLeveller", qWA_in (List.mem_of_getElem? (i := 1096) (by decide +kernel)) rfl⟩
theorem lk_X7_308 : ∃ host : String, Cond.methodLinkNest RX7 308 yX6_append host ∈ qWA := ⟨"TaskLeveller", qWA_in (List.mem_of_getElem? (i := 1124) (by decide +kernel)) rfl⟩
theorem lk_X7_310 : ∃ host : String, Cond.methodLinkNest RX7 310 yX6_read host ∈ qWA := ⟨"TaskLeveller", qWA_in (List.mem_of_getElem? (i := 1135) (by decide +kernel)) rfl⟩
theorem lk_X7_313 : ∃ host : String, Cond.methodLinkNest RX7 313 yX6_clear host ∈ qWA := ⟨"TaskLeveller", qWA_in (List.mem_of_getElem? (i := 1209) (by decide +kernel)) rfl⟩
theorem lk_X7_319 : ∃ host : String, Cond.methodLinkNest RX7 319 yX5_copyFrom host ∈ qWA := ⟨"TaskLeveller", qWA_in (List.mem_of_getElem? (i := 519) (by decide +kernel)) rfl⟩
theorem lk_X7_339 : ∃ host : String, Cond.methodLinkNest RX7 339 yX2_takeInto host ∈ qWA := ⟨"TaskLeveller", qWA_in (List.mem_of_getElem? (i := 1282) (by decide +kernel)) rfl⟩
theorem lk_X7_350 : ∃ host : String, Cond.methodLinkNest RX7 350 yX2_clear host ∈ qWA := ⟨"TaskLeveller", qWA_in (List.mem_of_getElem? (i := 1295) (by decide +kernel)) rfl⟩
theorem lk_X7_351 : ∃ host : String, Cond.methodLinkNest RX7 351 yX2_keep host ∈ qWA := ⟨"TaskLeveller", qWA_in (List.mem_of_getElem? (i := 349) (by decide +kernel)) rfl⟩
theorem lk_X7_354 : ∃ host : String, Cond.methodLinkNest RX7 354 yX4_make host ∈ qWA := ⟨"TaskLeveller", qWA_in (List.mem_of_getElem? (i := 371) (by decide +kernel)) rfl⟩
theorem lk_X7_357 : ∃ host : String, Cond.methodLinkNest RX7 357 yX6_commandAt host ∈ qWA := ⟨"TaskLeveller", qWA_in (List.mem_of_getElem? (i := 1218) (by decide +kernel)) rfl⟩
theorem lk_X7_361 : ∃ host : String, Cond.methodLinkNest RX7 361 yX6_numberAt host ∈ qWA := ⟨"TaskLeveller", qWA_in (List.mem_of_getElem? (i := 1222) (by decide +kernel)) rfl⟩
theorem lk_X7_65 : ∃ host : String, Cond.methodLinkNest RX7 65 yX5_faultOfAdding host ∈ qWA := ⟨"TaskLeveller", qWA_in (List.mem_of_getElem? (i := 529) (by decide +kernel)) rfl⟩
theorem lk_X7_76 : ∃ host : String, Cond.methodLinkNest RX7 76 yX5_append host ∈ qWA := ⟨"TaskLeveller", qWA_in (List.mem_of_getElem? (i := 659) (by decide +kernel)) rfl⟩
theorem lk_X7_80 : ∃ host : String, Cond.methodLinkNest RX7 80 yX5_faultOfTask host ∈ qWA := ⟨"TaskLeveller", qWA_in (List.mem_of_getElem? (i := 692) (by decide +kernel)) rfl⟩
theorem lk_X7_84 : ∃ host : String, Cond.methodLinkNest RX7 84 yX5_drop host ∈ qWA := ⟨"TaskLeveller", qWA_in (List.mem_of_getElem? (i := 696) (by decide +kernel)) rfl⟩
theorem lk_X7_91 : ∃ host : String, Cond.methodLinkNest RX7 91 yX5_faultOfLinking host ∈ qWA := ⟨"TaskLeveller", qWA_in (List.mem_of_getElem? (i := 712) (by decide +kernel)) rfl⟩
theorem lk_X7_95 : ∃ host : String, Cond.methodLinkNest RX7 95 yX5_isLinked host ∈ qWA := ⟨"TaskLeveller", qWA_in (List.mem_of_getElem? (i := 722) (by decide +kernel)) rfl⟩
theorem lk_X7_99 : ∃ host : String, Cond.methodLinkNest RX7 99 yX5_link host ∈ qWA := ⟨"TaskLeveller", qWA_in (List.mem_of_getElem? (i := 723) (by decide +kernel)) rfl⟩
theorem thr_259_261 : qThr 259 261 qARE := ⟨by decide +kernel, qWA_in (List.mem_of_getElem? (i := 1068) (by decide +kernel)) rfl, qWA_in (List.mem_of_getElem? (i := 126) (by decide +kernel)) rfl, fun w h => List.mem_filter.mpr ⟨(by decide +kernel : ∀ w ∈ vx_atS RX7 261 qARE qxn, w ∈ lw_tbl) w h, (by decide +kernel : ∀ w ∈ vx_atS RX7 261 qARE qxn, qok w = true) w h⟩, by decide +kernel⟩
theorem thr_284_288 : qThr 284 288 qIOE := ⟨by decide +kernel, qWA_in (List.mem_of_getElem? (i := 539) (by decide +kernel)) rfl, qWA_in (List.mem_of_getElem? (i := 117) (by decide +kernel)) rfl, fun w h => List.mem_filter.mpr ⟨(by decide +kernel : ∀ w ∈ vx_atS RX7 288 qIOE qxn, w ∈ lw_tbl) w h, (by decide +kernel : ∀ w ∈ vx_atS RX7 288 qIOE qxn, qok w = true) w h⟩, by decide +kernel⟩
theorem thr_297_301 : qThr 297 301 qIAE := ⟨by decide +kernel, qWA_in (List.mem_of_getElem? (i := 611) (by decide +kernel)) rfl, qWA_in (List.mem_of_getElem? (i := 118) (by decide +kernel)) rfl, fun w h => List.mem_filter.mpr ⟨(by decide +kernel : ∀ w ∈ vx_atS RX7 301 qIAE qxn, w ∈ lw_tbl) w h, (by decide +kernel : ∀ w ∈ vx_atS RX7 301 qIAE qxn, qok w = true) w h⟩, by decide +kernel⟩
theorem thr_303_307 : qThr 303 307 qISE := ⟨by decide +kernel, qWA_in (List.mem_of_getElem? (i := 627) (by decide +kernel)) rfl, qWA_in (List.mem_of_getElem? (i := 119) (by decide +kernel)) rfl, fun w h => List.mem_filter.mpr ⟨(by decide +kernel : ∀ w ∈ vx_atS RX7 307 qISE qxn, w ∈ lw_tbl) w h, (by decide +kernel : ∀ w ∈ vx_atS RX7 307 qISE qxn, qok w = true) w h⟩, by decide +kernel⟩
theorem thr_404_408 : qThr 404 408 qUOE := ⟨by decide +kernel, qWA_in (List.mem_of_getElem? (i := 643) (by decide +kernel)) rfl, qWA_in (List.mem_of_getElem? (i := 120) (by decide +kernel)) rfl, fun w h => List.mem_filter.mpr ⟨(by decide +kernel : ∀ w ∈ vx_atS RX7 408 qUOE qxn, w ∈ lw_tbl) w h, (by decide +kernel : ∀ w ∈ vx_atS RX7 408 qUOE qxn, qok w = true) w h⟩, by decide +kernel⟩
theorem cast_IOE : Cond.castable qIOE qIOE ∈ qWA := qWA_in (List.mem_of_getElem? (i := 541) (by decide +kernel)) rfl
theorem ckl_21 : Cond.classLink RL 21 qIOE ∈ qWA := qWA_in (List.mem_of_getElem? (i := 667) (by decide +kernel)) rfl
theorem cast_IAE : Cond.castable qIAE qIAE ∈ qWA := qWA_in (List.mem_of_getElem? (i := 613) (by decide +kernel)) rfl
theorem ckl_13 : Cond.classLink RL 13 qIAE ∈ qWA := qWA_in (List.mem_of_getElem? (i := 523) (by decide +kernel)) rfl
theorem cast_ISE : Cond.castable qISE qISE ∈ qWA := qWA_in (List.mem_of_getElem? (i := 629) (by decide +kernel)) rfl
theorem ckl_15 : Cond.classLink RL 15 qISE ∈ qWA := qWA_in (List.mem_of_getElem? (i := 524) (by decide +kernel)) rfl
theorem cast_UOE : Cond.castable qUOE qUOE ∈ qWA := qWA_in (List.mem_of_getElem? (i := 645) (by decide +kernel)) rfl
theorem ckl_27 : Cond.classLink RL 27 qUOE ∈ qWA := qWA_in (List.mem_of_getElem? (i := 707) (by decide +kernel)) rfl
theorem cast_NSE : Cond.castable qNSE qNSE ∈ qWA := qWA_in (List.mem_of_getElem? (i := 868) (by decide +kernel)) rfl
theorem ckl_75 : Cond.classLink RL 75 qNSE ∈ qWA := qWA_in (List.mem_of_getElem? (i := 861) (by decide +kernel)) rfl
theorem cast_ARE : Cond.castable qARE qARE ∈ qWA := qWA_in (List.mem_of_getElem? (i := 1062) (by decide +kernel)) rfl
theorem ckl_137 : Cond.classLink RL 137 qARE ∈ qWA := qWA_in (List.mem_of_getElem? (i := 1050) (by decide +kernel)) rfl
theorem lk_X2_33 : Cond.methodLink RX2 33 Lib.Math.min.name ∈ qWA := qWA_in (List.mem_of_getElem? (i := 364) (by decide +kernel)) rfl
theorem lk_X2_39 : Cond.methodLink RX2 39 Lib.Math.max.name ∈ qWA := qWA_in (List.mem_of_getElem? (i := 1286) (by decide +kernel)) rfl
theorem lk_X4_117 : Cond.methodLink RX4 117 Lib.Math.min.name ∈ qWA := qWA_in (List.mem_of_getElem? (i := 429) (by decide +kernel)) rfl
theorem lk_X4_98 : Cond.methodLink RX4 98 Lib.Math.max.name ∈ qWA := qWA_in (List.mem_of_getElem? (i := 407) (by decide +kernel)) rfl
theorem lk_X6_58 : Cond.methodLink RX6 58 Lib.Math.max.name ∈ qWA := qWA_in (List.mem_of_getElem? (i := 1208) (by decide +kernel)) rfl
theorem lk_X7_220 : Cond.methodLink RX7 220 Lib.Math.max.name ∈ qWA := qWA_in (List.mem_of_getElem? (i := 703) (by decide +kernel)) rfl
theorem lk_X7_250 : Cond.methodLink RX7 250 Lib.Math.abs.name ∈ qWA := qWA_in (List.mem_of_getElem? (i := 1018) (by decide +kernel)) rfl
theorem lk_X8_141 : Cond.methodLink RX8 141 Lib.Math.max.name ∈ qWA := qWA_in (List.mem_of_getElem? (i := 1515) (by decide +kernel)) rfl
theorem lk_X8_154 : Cond.methodLink RX8 154 Lib.Math.min.name ∈ qWA := qWA_in (List.mem_of_getElem? (i := 1524) (by decide +kernel)) rfl
theorem lk_X8_182 : Cond.methodLink RX8 182 Lib.Math.abs.name ∈ qWA := qWA_in (List.mem_of_getElem? (i := 1678) (by decide +kernel)) rfl
theorem mm_max : Cond.static Lib.Math.max.name ∈ qWA ∧ Cond.initialized "java/lang/Math" ∈ qWA ∧ Cond.code Lib.Math.max.name Lib.Math.max.code 2 (some .int) ∈ qWA := ⟨qWA_in (List.mem_of_getElem? (i := 408) (by decide +kernel)) rfl, qWA_in (List.mem_of_getElem? (i := 121) (by decide +kernel)) rfl, qWA_in (List.mem_of_getElem? (i := 409) (by decide +kernel)) rfl⟩
theorem mm_min : Cond.static Lib.Math.min.name ∈ qWA ∧ Cond.initialized "java/lang/Math" ∈ qWA ∧ Cond.code Lib.Math.min.name Lib.Math.min.code 2 (some .int) ∈ qWA := ⟨qWA_in (List.mem_of_getElem? (i := 365) (by decide +kernel)) rfl, qWA_in (List.mem_of_getElem? (i := 121) (by decide +kernel)) rfl, qWA_in (List.mem_of_getElem? (i := 366) (by decide +kernel)) rfl⟩
theorem mm_abs : Cond.static Lib.Math.abs.name ∈ qWA ∧ Cond.initialized "java/lang/Math" ∈ qWA ∧ Cond.code Lib.Math.abs.name Lib.Math.abs.code 1 (some .int) ∈ qWA := ⟨qWA_in (List.mem_of_getElem? (i := 1019) (by decide +kernel)) rfl, qWA_in (List.mem_of_getElem? (i := 121) (by decide +kernel)) rfl, qWA_in (List.mem_of_getElem? (i := 1020) (by decide +kernel)) rfl⟩
