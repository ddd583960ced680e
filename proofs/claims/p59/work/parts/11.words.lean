/-! words of links, methods and fields, by their places -/
theorem cl_X2 : qCl 0 RX2 TX2 3 := ⟨rfl, fun w h => List.mem_filter.mpr ⟨(by decide +kernel : ∀ w ∈ u_ws RX2 TX2 3, w ∈ lw_tbl) w h, (by decide +kernel : ∀ w ∈ u_ws RX2 TX2 3, qok w = true) w h⟩, nmX2, tyX2, tyX2_ok⟩
theorem cl_X3 : qCl 1 RX3 TX3 2 := ⟨rfl, fun w h => List.mem_filter.mpr ⟨(by decide +kernel : ∀ w ∈ u_ws RX3 TX3 2, w ∈ lw_tbl) w h, (by decide +kernel : ∀ w ∈ u_ws RX3 TX3 2, qok w = true) w h⟩, nmX3, tyX3, tyX3_ok⟩
theorem cl_X4 : qCl 2 RX4 TX4 9 := ⟨rfl, fun w h => List.mem_filter.mpr ⟨(by decide +kernel : ∀ w ∈ u_ws RX4 TX4 9, w ∈ lw_tbl) w h, (by decide +kernel : ∀ w ∈ u_ws RX4 TX4 9, qok w = true) w h⟩, nmX4, tyX4, tyX4_ok⟩
theorem cl_X5 : qCl 3 RX5 TX5 9 := ⟨rfl, fun w h => List.mem_filter.mpr ⟨(by decide +kernel : ∀ w ∈ u_ws RX5 TX5 9, w ∈ lw_tbl) w h, (by decide +kernel : ∀ w ∈ u_ws RX5 TX5 9, qok w = true) w h⟩, nmX5, tyX5, tyX5_ok⟩
theorem cl_X6 : qCl 4 RX6 TX6 6 := ⟨rfl, fun w h => List.mem_filter.mpr ⟨(by decide +kernel : ∀ w ∈ u_ws RX6 TX6 6, w ∈ lw_tbl) w h, (by decide +kernel : ∀ w ∈ u_ws RX6 TX6 6, qok w = true) w h⟩, nmX6, tyX6, tyX6_ok⟩
theorem cl_X7 : qCl 5 RX7 TX7 13 := ⟨rfl, fun w h => List.mem_filter.mpr ⟨(by decide +kernel : ∀ w ∈ u_ws RX7 TX7 13, w ∈ lw_tbl) w h, (by decide +kernel : ∀ w ∈ u_ws RX7 TX7 13, qok w = true) w h⟩, nmX7, tyX7, tyX7_ok⟩
theorem cl_J0 : qClj 6 RJ0 TJ0 := ⟨rfl, fun w h => List.mem_filter.mpr ⟨(by decide +kernel : ∀ w ∈ u_ws RJ0 TJ0 4, w ∈ lw_tbl) w h, (by decide +kernel : ∀ w ∈ u_ws RJ0 TJ0 4, qok w = true) w h⟩, nmJ0, tyJ0, tyJ0_ok, fun j hj => by
  rcases (show j = 0 ∨ j = 1 ∨ j = 2 ∨ j = 3 by omega) with rfl | rfl | rfl | rfl <;> rfl⟩
theorem cl_J4 : qClj 7 RJ4 TJ4 := ⟨rfl, fun w h => List.mem_filter.mpr ⟨(by decide +kernel : ∀ w ∈ u_ws RJ4 TJ4 4, w ∈ lw_tbl) w h, (by decide +kernel : ∀ w ∈ u_ws RJ4 TJ4 4, qok w = true) w h⟩, nmJ4, tyJ4, tyJ4_ok, fun j hj => by
  rcases (show j = 0 ∨ j = 1 ∨ j = 2 ∨ j = 3 by omega) with rfl | rfl | rfl | rfl <;> rfl⟩
theorem mw_X2_keep : qMw yX2_keep cX2_keep 3 1 none := ⟨qWA_in (List.mem_of_getElem? (i := 481) (by decide +kernel)) rfl, qWA_in (List.mem_of_getElem? (i := 65) (by decide +kernel)) rfl, ⟨by decide +kernel, by decide +kernel⟩, by decide +kernel⟩
theorem in_X2_keep : Cond.instanceMethod yX2_keep ∈ qWA := qWA_in (List.mem_of_getElem? (i := 480) (by decide +kernel)) rfl
theorem se_X2_keep : Cond.selects RX2 yX2_keep yX2_keep ∈ qWA := qWA_in (List.mem_of_getElem? (i := 3) (by decide +kernel)) rfl
theorem mw_X2_stateAt : qMw yX2_stateAt cX2_stateAt 2 1 (some (.object "TaskLeveller$Project")) := ⟨qWA_in (List.mem_of_getElem? (i := 485) (by decide +kernel)) rfl, qWA_in (List.mem_of_getElem? (i := 65) (by decide +kernel)) rfl, ⟨by decide +kernel, by decide +kernel⟩, by decide +kernel⟩
theorem in_X2_stateAt : Cond.instanceMethod yX2_stateAt ∈ qWA := qWA_in (List.mem_of_getElem? (i := 484) (by decide +kernel)) rfl
theorem se_X2_stateAt : Cond.selects RX2 yX2_stateAt yX2_stateAt ∈ qWA := qWA_in (List.mem_of_getElem? (i := 4) (by decide +kernel)) rfl
theorem mw_X3_clear : qMw yX3_clear cX3_clear 1 0 none := ⟨qWA_in (List.mem_of_getElem? (i := 1318) (by decide +kernel)) rfl, qWA_in (List.mem_of_getElem? (i := 68) (by decide +kernel)) rfl, ⟨by decide +kernel, by decide +kernel⟩, by decide +kernel⟩
theorem in_X3_clear : Cond.instanceMethod yX3_clear ∈ qWA := qWA_in (List.mem_of_getElem? (i := 1317) (by decide +kernel)) rfl
theorem se_X3_clear : Cond.selects RX3 yX3_clear yX3_clear ∈ qWA := qWA_in (List.mem_of_getElem? (i := 56) (by decide +kernel)) rfl
theorem mw_X3_write : qMw yX3_write cX3_write 2 1 none := ⟨qWA_in (List.mem_of_getElem? (i := 1322) (by decide +kernel)) rfl, qWA_in (List.mem_of_getElem? (i := 68) (by decide +kernel)) rfl, ⟨by decide +kernel, by decide +kernel⟩, by decide +kernel⟩
theorem in_X3_write : Cond.instanceMethod yX3_write ∈ qWA := qWA_in (List.mem_of_getElem? (i := 1321) (by decide +kernel)) rfl
theorem se_X3_write : Cond.selects RX3 yX3_write yX3_write ∈ qWA := qWA_in (List.mem_of_getElem? (i := 57) (by decide +kernel)) rfl
theorem mw_X3_writeNumber : qMw yX3_writeNumber cX3_writeNumber 2 1 none := ⟨qWA_in (List.mem_of_getElem? (i := 1326) (by decide +kernel)) rfl, qWA_in (List.mem_of_getElem? (i := 68) (by decide +kernel)) rfl, ⟨by decide +kernel, by decide +kernel⟩, by decide +kernel⟩
theorem in_X3_writeNumber : Cond.instanceMethod yX3_writeNumber ∈ qWA := qWA_in (List.mem_of_getElem? (i := 1325) (by decide +kernel)) rfl
theorem se_X3_writeNumber : Cond.selects RX3 yX3_writeNumber yX3_writeNumber ∈ qWA := qWA_in (List.mem_of_getElem? (i := 58) (by decide +kernel)) rfl
theorem mw_X4_make : qMw yX4_make cX4_make 2 1 none := ⟨qWA_in (List.mem_of_getElem? (i := 604) (by decide +kernel)) rfl, qWA_in (List.mem_of_getElem? (i := 66) (by decide +kernel)) rfl, ⟨by decide +kernel, by decide +kernel⟩, by decide +kernel⟩
theorem in_X4_make : Cond.instanceMethod yX4_make ∈ qWA := qWA_in (List.mem_of_getElem? (i := 603) (by decide +kernel)) rfl
theorem se_X4_make : Cond.selects RX4 yX4_make yX4_make ∈ qWA := qWA_in (List.mem_of_getElem? (i := 19) (by decide +kernel)) rfl
theorem mw_X4_slackOf : qMw yX4_slackOf cX4_slackOf 2 1 (some .int) := ⟨qWA_in (List.mem_of_getElem? (i := 917) (by decide +kernel)) rfl, qWA_in (List.mem_of_getElem? (i := 66) (by decide +kernel)) rfl, ⟨by decide +kernel, by decide +kernel⟩, by decide +kernel⟩
theorem in_X4_slackOf : Cond.instanceMethod yX4_slackOf ∈ qWA := qWA_in (List.mem_of_getElem? (i := 916) (by decide +kernel)) rfl
theorem se_X4_slackOf : Cond.selects RX4 yX4_slackOf yX4_slackOf ∈ qWA := qWA_in (List.mem_of_getElem? (i := 49) (by decide +kernel)) rfl
theorem mw_X4_usedOn : qMw yX4_usedOn cX4_usedOn 3 2 (some .int) := ⟨qWA_in (List.mem_of_getElem? (i := 884) (by decide +kernel)) rfl, qWA_in (List.mem_of_getElem? (i := 66) (by decide +kernel)) rfl, ⟨by decide +kernel, by decide +kernel⟩, by decide +kernel⟩
theorem in_X4_usedOn : Cond.instanceMethod yX4_usedOn ∈ qWA := qWA_in (List.mem_of_getElem? (i := 883) (by decide +kernel)) rfl
theorem se_X4_usedOn : Cond.selects RX4 yX4_usedOn yX4_usedOn ∈ qWA := qWA_in (List.mem_of_getElem? (i := 45) (by decide +kernel)) rfl
theorem mw_X4_workOnAllDays : qMw yX4_workOnAllDays cX4_workOnAllDays 4 1 (some .int) := ⟨qWA_in (List.mem_of_getElem? (i := 1309) (by decide +kernel)) rfl, qWA_in (List.mem_of_getElem? (i := 66) (by decide +kernel)) rfl, ⟨by decide +kernel, by decide +kernel⟩, by decide +kernel⟩
theorem in_X4_workOnAllDays : Cond.instanceMethod yX4_workOnAllDays ∈ qWA := qWA_in (List.mem_of_getElem? (i := 1308) (by decide +kernel)) rfl
theorem se_X4_workOnAllDays : Cond.selects RX4 yX4_workOnAllDays yX4_workOnAllDays ∈ qWA := qWA_in (List.mem_of_getElem? (i := 55) (by decide +kernel)) rfl
theorem mw_X4_findOrder : qMw yX4_findOrder cX4_findOrder 5 1 none := ⟨qWA_in (List.mem_of_getElem? (i := 608) (by decide +kernel)) rfl, qWA_in (List.mem_of_getElem? (i := 66) (by decide +kernel)) rfl, ⟨by decide +kernel, by decide +kernel⟩, by decide +kernel⟩
theorem in_X4_findOrder : Cond.instanceMethod yX4_findOrder ∈ qWA := qWA_in (List.mem_of_getElem? (i := 607) (by decide +kernel)) rfl
theorem se_X4_findOrder : Cond.selects RX4 yX4_findOrder yX4_findOrder ∈ qWA := qWA_in (List.mem_of_getElem? (i := 20) (by decide +kernel)) rfl
theorem mw_X4_findClosure : qMw yX4_findClosure cX4_findClosure 4 1 none := ⟨qWA_in (List.mem_of_getElem? (i := 617) (by decide +kernel)) rfl, qWA_in (List.mem_of_getElem? (i := 66) (by decide +kernel)) rfl, ⟨by decide +kernel, by decide +kernel⟩, by decide +kernel⟩
theorem in_X4_findClosure : Cond.instanceMethod yX4_findClosure ∈ qWA := qWA_in (List.mem_of_getElem? (i := 616) (by decide +kernel)) rfl
theorem se_X4_findClosure : Cond.selects RX4 yX4_findClosure yX4_findClosure ∈ qWA := qWA_in (List.mem_of_getElem? (i := 22) (by decide +kernel)) rfl
theorem mw_X4_findEarliest : qMw yX4_findEarliest cX4_findEarliest 4 1 none := ⟨qWA_in (List.mem_of_getElem? (i := 624) (by decide +kernel)) rfl, qWA_in (List.mem_of_getElem? (i := 66) (by decide +kernel)) rfl, ⟨by decide +kernel, by decide +kernel⟩, by decide +kernel⟩
theorem in_X4_findEarliest : Cond.instanceMethod yX4_findEarliest ∈ qWA := qWA_in (List.mem_of_getElem? (i := 623) (by decide +kernel)) rfl
theorem se_X4_findEarliest : Cond.selects RX4 yX4_findEarliest yX4_findEarliest ∈ qWA := qWA_in (List.mem_of_getElem? (i := 23) (by decide +kernel)) rfl
theorem mw_X4_earliestOf : qMw yX4_earliestOf cX4_earliestOf 8 4 (some .int) := ⟨qWA_in (List.mem_of_getElem? (i := 628) (by decide +kernel)) rfl, qWA_in (List.mem_of_getElem? (i := 66) (by decide +kernel)) rfl, ⟨by decide +kernel, by decide +kernel⟩, by decide +kernel⟩
theorem st_X4_earliestOf : Cond.static yX4_earliestOf ∈ qWA := qWA_in (List.mem_of_getElem? (i := 627) (by decide +kernel)) rfl
theorem mw_X4_findImproved : qMw yX4_findImproved cX4_findImproved 4 1 none := ⟨qWA_in (List.mem_of_getElem? (i := 633) (by decide +kernel)) rfl, qWA_in (List.mem_of_getElem? (i := 66) (by decide +kernel)) rfl, ⟨by decide +kernel, by decide +kernel⟩, by decide +kernel⟩
theorem in_X4_findImproved : Cond.instanceMethod yX4_findImproved ∈ qWA := qWA_in (List.mem_of_getElem? (i := 632) (by decide +kernel)) rfl
theorem se_X4_findImproved : Cond.selects RX4 yX4_findImproved yX4_findImproved ∈ qWA := qWA_in (List.mem_of_getElem? (i := 24) (by decide +kernel)) rfl
theorem mw_X4_improve : qMw yX4_improve cX4_improve 5 1 (some .boolean) := ⟨qWA_in (List.mem_of_getElem? (i := 637) (by decide +kernel)) rfl, qWA_in (List.mem_of_getElem? (i := 66) (by decide +kernel)) rfl, ⟨by decide +kernel, by decide +kernel⟩, by decide +kernel⟩
theorem in_X4_improve : Cond.instanceMethod yX4_improve ∈ qWA := qWA_in (List.mem_of_getElem? (i := 636) (by decide +kernel)) rfl
theorem se_X4_improve : Cond.selects RX4 yX4_improve yX4_improve ∈ qWA := qWA_in (List.mem_of_getElem? (i := 25) (by decide +kernel)) rfl
theorem mw_X4_soonestStart : qMw yX4_soonestStart cX4_soonestStart 6 3 (some .int) := ⟨qWA_in (List.mem_of_getElem? (i := 640) (by decide +kernel)) rfl, qWA_in (List.mem_of_getElem? (i := 66) (by decide +kernel)) rfl, ⟨by decide +kernel, by decide +kernel⟩, by decide +kernel⟩
theorem st_X4_soonestStart : Cond.static yX4_soonestStart ∈ qWA := qWA_in (List.mem_of_getElem? (i := 639) (by decide +kernel)) rfl
theorem mw_X4_findLatest : qMw yX4_findLatest cX4_findLatest 6 1 none := ⟨qWA_in (List.mem_of_getElem? (i := 644) (by decide +kernel)) rfl, qWA_in (List.mem_of_getElem? (i := 66) (by decide +kernel)) rfl, ⟨by decide +kernel, by decide +kernel⟩, by decide +kernel⟩
theorem in_X4_findLatest : Cond.instanceMethod yX4_findLatest ∈ qWA := qWA_in (List.mem_of_getElem? (i := 643) (by decide +kernel)) rfl
theorem se_X4_findLatest : Cond.selects RX4 yX4_findLatest yX4_findLatest ∈ qWA := qWA_in (List.mem_of_getElem? (i := 26) (by decide +kernel)) rfl
theorem mw_X4_findLevelled : qMw yX4_findLevelled cX4_findLevelled 5 1 none := ⟨qWA_in (List.mem_of_getElem? (i := 650) (by decide +kernel)) rfl, qWA_in (List.mem_of_getElem? (i := 66) (by decide +kernel)) rfl, ⟨by decide +kernel, by decide +kernel⟩, by decide +kernel⟩
theorem in_X4_findLevelled : Cond.instanceMethod yX4_findLevelled ∈ qWA := qWA_in (List.mem_of_getElem? (i := 649) (by decide +kernel)) rfl
theorem se_X4_findLevelled : Cond.selects RX4 yX4_findLevelled yX4_findLevelled ∈ qWA := qWA_in (List.mem_of_getElem? (i := 27) (by decide +kernel)) rfl
theorem mw_X4_mostUrgent : qMw yX4_mostUrgent cX4_mostUrgent 6 2 (some .int) := ⟨qWA_in (List.mem_of_getElem? (i := 654) (by decide +kernel)) rfl, qWA_in (List.mem_of_getElem? (i := 66) (by decide +kernel)) rfl, ⟨by decide +kernel, by decide +kernel⟩, by decide +kernel⟩
theorem in_X4_mostUrgent : Cond.instanceMethod yX4_mostUrgent ∈ qWA := qWA_in (List.mem_of_getElem? (i := 653) (by decide +kernel)) rfl
theorem se_X4_mostUrgent : Cond.selects RX4 yX4_mostUrgent yX4_mostUrgent ∈ qWA := qWA_in (List.mem_of_getElem? (i := 28) (by decide +kernel)) rfl
theorem mw_X4_lowestFit : qMw yX4_lowestFit cX4_lowestFit 4 2 (some .int) := ⟨qWA_in (List.mem_of_getElem? (i := 658) (by decide +kernel)) rfl, qWA_in (List.mem_of_getElem? (i := 66) (by decide +kernel)) rfl, ⟨by decide +kernel, by decide +kernel⟩, by decide +kernel⟩
theorem in_X4_lowestFit : Cond.instanceMethod yX4_lowestFit ∈ qWA := qWA_in (List.mem_of_getElem? (i := 657) (by decide +kernel)) rfl
theorem se_X4_lowestFit : Cond.selects RX4 yX4_lowestFit yX4_lowestFit ∈ qWA := qWA_in (List.mem_of_getElem? (i := 29) (by decide +kernel)) rfl
theorem mw_X4_fits : qMw yX4_fits cX4_fits 9 3 (some .boolean) := ⟨qWA_in (List.mem_of_getElem? (i := 662) (by decide +kernel)) rfl, qWA_in (List.mem_of_getElem? (i := 66) (by decide +kernel)) rfl, ⟨by decide +kernel, by decide +kernel⟩, by decide +kernel⟩
theorem in_X4_fits : Cond.instanceMethod yX4_fits ∈ qWA := qWA_in (List.mem_of_getElem? (i := 661) (by decide +kernel)) rfl
theorem se_X4_fits : Cond.selects RX4 yX4_fits yX4_fits ∈ qWA := qWA_in (List.mem_of_getElem? (i := 30) (by decide +kernel)) rfl
theorem mw_X4_place : qMw yX4_place cX4_place 7 3 none := ⟨qWA_in (List.mem_of_getElem? (i := 666) (by decide +kernel)) rfl, qWA_in (List.mem_of_getElem? (i := 66) (by decide +kernel)) rfl, ⟨by decide +kernel, by decide +kernel⟩, by decide +kernel⟩
theorem in_X4_place : Cond.instanceMethod yX4_place ∈ qWA := qWA_in (List.mem_of_getElem? (i := 665) (by decide +kernel)) rfl
theorem se_X4_place : Cond.selects RX4 yX4_place yX4_place ∈ qWA := qWA_in (List.mem_of_getElem? (i := 31) (by decide +kernel)) rfl
theorem mw_X5_copyFrom : qMw yX5_copyFrom cX5_copyFrom 2 1 none := ⟨qWA_in (List.mem_of_getElem? (i := 489) (by decide +kernel)) rfl, qWA_in (List.mem_of_getElem? (i := 64) (by decide +kernel)) rfl, ⟨by decide +kernel, by decide +kernel⟩, by decide +kernel⟩
theorem in_X5_copyFrom : Cond.instanceMethod yX5_copyFrom ∈ qWA := qWA_in (List.mem_of_getElem? (i := 488) (by decide +kernel)) rfl
theorem se_X5_copyFrom : Cond.selects RX5 yX5_copyFrom yX5_copyFrom ∈ qWA := qWA_in (List.mem_of_getElem? (i := 5) (by decide +kernel)) rfl
theorem mw_X5_faultOfTask : qMw yX5_faultOfTask cX5_faultOfTask 2 1 (some .char) := ⟨qWA_in (List.mem_of_getElem? (i := 510) (by decide +kernel)) rfl, qWA_in (List.mem_of_getElem? (i := 64) (by decide +kernel)) rfl, ⟨by decide +kernel, by decide +kernel⟩, by decide +kernel⟩
theorem in_X5_faultOfTask : Cond.instanceMethod yX5_faultOfTask ∈ qWA := qWA_in (List.mem_of_getElem? (i := 509) (by decide +kernel)) rfl
theorem se_X5_faultOfTask : Cond.selects RX5 yX5_faultOfTask yX5_faultOfTask ∈ qWA := qWA_in (List.mem_of_getElem? (i := 7) (by decide +kernel)) rfl
theorem mw_X5_faultOfPair : qMw yX5_faultOfPair cX5_faultOfPair 3 2 (some .char) := ⟨qWA_in (List.mem_of_getElem? (i := 535) (by decide +kernel)) rfl, qWA_in (List.mem_of_getElem? (i := 64) (by decide +kernel)) rfl, ⟨by decide +kernel, by decide +kernel⟩, by decide +kernel⟩
theorem in_X5_faultOfPair : Cond.instanceMethod yX5_faultOfPair ∈ qWA := qWA_in (List.mem_of_getElem? (i := 534) (by decide +kernel)) rfl
theorem se_X5_faultOfPair : Cond.selects RX5 yX5_faultOfPair yX5_faultOfPair ∈ qWA := qWA_in (List.mem_of_getElem? (i := 10) (by decide +kernel)) rfl
theorem mw_X5_faultOfAdding : qMw yX5_faultOfAdding cX5_faultOfAdding 6 4 (some .char) := ⟨qWA_in (List.mem_of_getElem? (i := 406) (by decide +kernel)) rfl, qWA_in (List.mem_of_getElem? (i := 64) (by decide +kernel)) rfl, ⟨by decide +kernel, by decide +kernel⟩, by decide +kernel⟩
theorem in_X5_faultOfAdding : Cond.instanceMethod yX5_faultOfAdding ∈ qWA := qWA_in (List.mem_of_getElem? (i := 405) (by decide +kernel)) rfl
theorem se_X5_faultOfAdding : Cond.selects RX5 yX5_faultOfAdding yX5_faultOfAdding ∈ qWA := qWA_in (List.mem_of_getElem? (i := 1) (by decide +kernel)) rfl
theorem mw_X5_faultOfLinking : qMw yX5_faultOfLinking cX5_faultOfLinking 3 2 (some .char) := ⟨qWA_in (List.mem_of_getElem? (i := 531) (by decide +kernel)) rfl, qWA_in (List.mem_of_getElem? (i := 64) (by decide +kernel)) rfl, ⟨by decide +kernel, by decide +kernel⟩, by decide +kernel⟩
theorem in_X5_faultOfLinking : Cond.instanceMethod yX5_faultOfLinking ∈ qWA := qWA_in (List.mem_of_getElem? (i := 530) (by decide +kernel)) rfl
theorem se_X5_faultOfLinking : Cond.selects RX5 yX5_faultOfLinking yX5_faultOfLinking ∈ qWA := qWA_in (List.mem_of_getElem? (i := 9) (by decide +kernel)) rfl
theorem mw_X5_faultOfDuration : qMw yX5_faultOfDuration cX5_faultOfDuration 3 2 (some .char) := ⟨qWA_in (List.mem_of_getElem? (i := 574) (by decide +kernel)) rfl, qWA_in (List.mem_of_getElem? (i := 64) (by decide +kernel)) rfl, ⟨by decide +kernel, by decide +kernel⟩, by decide +kernel⟩
theorem in_X5_faultOfDuration : Cond.instanceMethod yX5_faultOfDuration ∈ qWA := qWA_in (List.mem_of_getElem? (i := 573) (by decide +kernel)) rfl
theorem se_X5_faultOfDuration : Cond.selects RX5 yX5_faultOfDuration yX5_faultOfDuration ∈ qWA := qWA_in (List.mem_of_getElem? (i := 15) (by decide +kernel)) rfl
theorem mw_X5_faultOfRelease : qMw yX5_faultOfRelease cX5_faultOfRelease 3 2 (some .char) := ⟨qWA_in (List.mem_of_getElem? (i := 584) (by decide +kernel)) rfl, qWA_in (List.mem_of_getElem? (i := 64) (by decide +kernel)) rfl, ⟨by decide +kernel, by decide +kernel⟩, by decide +kernel⟩
theorem in_X5_faultOfRelease : Cond.instanceMethod yX5_faultOfRelease ∈ qWA := qWA_in (List.mem_of_getElem? (i := 583) (by decide +kernel)) rfl
theorem se_X5_faultOfRelease : Cond.selects RX5 yX5_faultOfRelease yX5_faultOfRelease ∈ qWA := qWA_in (List.mem_of_getElem? (i := 16) (by decide +kernel)) rfl
theorem mw_X5_faultOfLimit : qMw yX5_faultOfLimit cX5_faultOfLimit 4 2 (some .char) := ⟨qWA_in (List.mem_of_getElem? (i := 592) (by decide +kernel)) rfl, qWA_in (List.mem_of_getElem? (i := 64) (by decide +kernel)) rfl, ⟨by decide +kernel, by decide +kernel⟩, by decide +kernel⟩
theorem in_X5_faultOfLimit : Cond.instanceMethod yX5_faultOfLimit ∈ qWA := qWA_in (List.mem_of_getElem? (i := 591) (by decide +kernel)) rfl
theorem se_X5_faultOfLimit : Cond.selects RX5 yX5_faultOfLimit yX5_faultOfLimit ∈ qWA := qWA_in (List.mem_of_getElem? (i := 17) (by decide +kernel)) rfl
theorem mw_X5_append : qMw yX5_append cX5_append 6 4 (some .int) := ⟨qWA_in (List.mem_of_getElem? (i := 499) (by decide +kernel)) rfl, qWA_in (List.mem_of_getElem? (i := 64) (by decide +kernel)) rfl, ⟨by decide +kernel, by decide +kernel⟩, by decide +kernel⟩
theorem in_X5_append : Cond.instanceMethod yX5_append ∈ qWA := qWA_in (List.mem_of_getElem? (i := 498) (by decide +kernel)) rfl
theorem se_X5_append : Cond.selects RX5 yX5_append yX5_append ∈ qWA := qWA_in (List.mem_of_getElem? (i := 6) (by decide +kernel)) rfl
theorem mw_X5_drop : qMw yX5_drop cX5_drop 5 1 none := ⟨qWA_in (List.mem_of_getElem? (i := 514) (by decide +kernel)) rfl, qWA_in (List.mem_of_getElem? (i := 64) (by decide +kernel)) rfl, ⟨by decide +kernel, by decide +kernel⟩, by decide +kernel⟩
theorem in_X5_drop : Cond.instanceMethod yX5_drop ∈ qWA := qWA_in (List.mem_of_getElem? (i := 513) (by decide +kernel)) rfl
theorem se_X5_drop : Cond.selects RX5 yX5_drop yX5_drop ∈ qWA := qWA_in (List.mem_of_getElem? (i := 8) (by decide +kernel)) rfl
theorem mw_X5_link : qMw yX5_link cX5_link 3 2 none := ⟨qWA_in (List.mem_of_getElem? (i := 554) (by decide +kernel)) rfl, qWA_in (List.mem_of_getElem? (i := 64) (by decide +kernel)) rfl, ⟨by decide +kernel, by decide +kernel⟩, by decide +kernel⟩
theorem in_X5_link : Cond.instanceMethod yX5_link ∈ qWA := qWA_in (List.mem_of_getElem? (i := 553) (by decide +kernel)) rfl
theorem se_X5_link : Cond.selects RX5 yX5_link yX5_link ∈ qWA := qWA_in (List.mem_of_getElem? (i := 13) (by decide +kernel)) rfl
theorem mw_X5_unlink : qMw yX5_unlink cX5_unlink 3 2 none := ⟨qWA_in (List.mem_of_getElem? (i := 566) (by decide +kernel)) rfl, qWA_in (List.mem_of_getElem? (i := 64) (by decide +kernel)) rfl, ⟨by decide +kernel, by decide +kernel⟩, by decide +kernel⟩
theorem in_X5_unlink : Cond.instanceMethod yX5_unlink ∈ qWA := qWA_in (List.mem_of_getElem? (i := 565) (by decide +kernel)) rfl
theorem se_X5_unlink : Cond.selects RX5 yX5_unlink yX5_unlink ∈ qWA := qWA_in (List.mem_of_getElem? (i := 14) (by decide +kernel)) rfl
theorem mw_X5_isLinked : qMw yX5_isLinked cX5_isLinked 3 2 (some .boolean) := ⟨qWA_in (List.mem_of_getElem? (i := 550) (by decide +kernel)) rfl, qWA_in (List.mem_of_getElem? (i := 64) (by decide +kernel)) rfl, ⟨by decide +kernel, by decide +kernel⟩, by decide +kernel⟩
theorem in_X5_isLinked : Cond.instanceMethod yX5_isLinked ∈ qWA := qWA_in (List.mem_of_getElem? (i := 549) (by decide +kernel)) rfl
theorem se_X5_isLinked : Cond.selects RX5 yX5_isLinked yX5_isLinked ∈ qWA := qWA_in (List.mem_of_getElem? (i := 12) (by decide +kernel)) rfl
theorem mw_X5_reaches : qMw yX5_reaches cX5_reaches 3 2 (some .boolean) := ⟨qWA_in (List.mem_of_getElem? (i := 540) (by decide +kernel)) rfl, qWA_in (List.mem_of_getElem? (i := 64) (by decide +kernel)) rfl, ⟨by decide +kernel, by decide +kernel⟩, by decide +kernel⟩
theorem in_X5_reaches : Cond.instanceMethod yX5_reaches ∈ qWA := qWA_in (List.mem_of_getElem? (i := 539) (by decide +kernel)) rfl
theorem se_X5_reaches : Cond.selects RX5 yX5_reaches yX5_reaches ∈ qWA := qWA_in (List.mem_of_getElem? (i := 11) (by decide +kernel)) rfl
theorem mw_X5_search : qMw yX5_search cX5_search 7 4 (some .int) := ⟨qWA_in (List.mem_of_getElem? (i := 543) (by decide +kernel)) rfl, qWA_in (List.mem_of_getElem? (i := 64) (by decide +kernel)) rfl, ⟨by decide +kernel, by decide +kernel⟩, by decide +kernel⟩
theorem st_X5_search : Cond.static yX5_search ∈ qWA := qWA_in (List.mem_of_getElem? (i := 542) (by decide +kernel)) rfl
theorem mw_X5_isReady : qMw yX5_isReady cX5_isReady 3 2 (some .boolean) := ⟨qWA_in (List.mem_of_getElem? (i := 612) (by decide +kernel)) rfl, qWA_in (List.mem_of_getElem? (i := 64) (by decide +kernel)) rfl, ⟨by decide +kernel, by decide +kernel⟩, by decide +kernel⟩
theorem in_X5_isReady : Cond.instanceMethod yX5_isReady ∈ qWA := qWA_in (List.mem_of_getElem? (i := 611) (by decide +kernel)) rfl
theorem se_X5_isReady : Cond.selects RX5 yX5_isReady yX5_isReady ∈ qWA := qWA_in (List.mem_of_getElem? (i := 21) (by decide +kernel)) rfl
theorem mw_X5_takeStarts : qMw yX5_takeStarts cX5_takeStarts 2 1 none := ⟨qWA_in (List.mem_of_getElem? (i := 670) (by decide +kernel)) rfl, qWA_in (List.mem_of_getElem? (i := 64) (by decide +kernel)) rfl, ⟨by decide +kernel, by decide +kernel⟩, by decide +kernel⟩
theorem in_X5_takeStarts : Cond.instanceMethod yX5_takeStarts ∈ qWA := qWA_in (List.mem_of_getElem? (i := 669) (by decide +kernel)) rfl
theorem se_X5_takeStarts : Cond.selects RX5 yX5_takeStarts yX5_takeStarts ∈ qWA := qWA_in (List.mem_of_getElem? (i := 32) (by decide +kernel)) rfl
theorem mw_X5_hasStart : qMw yX5_hasStart cX5_hasStart 2 1 (some .boolean) := ⟨qWA_in (List.mem_of_getElem? (i := 896) (by decide +kernel)) rfl, qWA_in (List.mem_of_getElem? (i := 64) (by decide +kernel)) rfl, ⟨by decide +kernel, by decide +kernel⟩, by decide +kernel⟩
theorem in_X5_hasStart : Cond.instanceMethod yX5_hasStart ∈ qWA := qWA_in (List.mem_of_getElem? (i := 895) (by decide +kernel)) rfl
theorem se_X5_hasStart : Cond.selects RX5 yX5_hasStart yX5_hasStart ∈ qWA := qWA_in (List.mem_of_getElem? (i := 47) (by decide +kernel)) rfl
theorem mw_X5_workOf : qMw yX5_workOf cX5_workOf 4 1 (some .int) := ⟨qWA_in (List.mem_of_getElem? (i := 1301) (by decide +kernel)) rfl, qWA_in (List.mem_of_getElem? (i := 64) (by decide +kernel)) rfl, ⟨by decide +kernel, by decide +kernel⟩, by decide +kernel⟩
theorem in_X5_workOf : Cond.instanceMethod yX5_workOf ∈ qWA := qWA_in (List.mem_of_getElem? (i := 1300) (by decide +kernel)) rfl
theorem se_X5_workOf : Cond.selects RX5 yX5_workOf yX5_workOf ∈ qWA := qWA_in (List.mem_of_getElem? (i := 54) (by decide +kernel)) rfl
theorem mw_X7_addTask : qMw yX7_addTask cX7_addTask 5 4 (some .int) := ⟨qWA_in (List.mem_of_getElem? (i := 402) (by decide +kernel)) rfl, qWA_in (List.mem_of_getElem? (i := 63) (by decide +kernel)) rfl, ⟨by decide +kernel, by decide +kernel⟩, by decide +kernel⟩
theorem in_X7_addTask : Cond.instanceMethod yX7_addTask ∈ qWA := qWA_in (List.mem_of_getElem? (i := 400) (by decide +kernel)) rfl
theorem se_X7_addTask : Cond.selects RX7 yX7_addTask yX7_addTask ∈ qWA := qWA_in (List.mem_of_getElem? (i := 401) (by decide +kernel)) rfl
theorem mw_X7_removeTask : qMw yX7_removeTask cX7_removeTask 2 1 (some .int) := ⟨qWA_in (List.mem_of_getElem? (i := 506) (by decide +kernel)) rfl, qWA_in (List.mem_of_getElem? (i := 63) (by decide +kernel)) rfl, ⟨by decide +kernel, by decide +kernel⟩, by decide +kernel⟩
theorem in_X7_removeTask : Cond.instanceMethod yX7_removeTask ∈ qWA := qWA_in (List.mem_of_getElem? (i := 504) (by decide +kernel)) rfl
theorem se_X7_removeTask : Cond.selects RX7 yX7_removeTask yX7_removeTask ∈ qWA := qWA_in (List.mem_of_getElem? (i := 505) (by decide +kernel)) rfl
theorem mw_X7_addDependency : qMw yX7_addDependency cX7_addDependency 4 2 (some .boolean) := ⟨qWA_in (List.mem_of_getElem? (i := 527) (by decide +kernel)) rfl, qWA_in (List.mem_of_getElem? (i := 63) (by decide +kernel)) rfl, ⟨by decide +kernel, by decide +kernel⟩, by decide +kernel⟩
theorem in_X7_addDependency : Cond.instanceMethod yX7_addDependency ∈ qWA := qWA_in (List.mem_of_getElem? (i := 525) (by decide +kernel)) rfl
theorem se_X7_addDependency : Cond.selects RX7 yX7_addDependency yX7_addDependency ∈ qWA := qWA_in (List.mem_of_getElem? (i := 526) (by decide +kernel)) rfl
theorem mw_X7_removeDependency : qMw yX7_removeDependency cX7_removeDependency 4 2 (some .boolean) := ⟨qWA_in (List.mem_of_getElem? (i := 561) (by decide +kernel)) rfl, qWA_in (List.mem_of_getElem? (i := 63) (by decide +kernel)) rfl, ⟨by decide +kernel, by decide +kernel⟩, by decide +kernel⟩
theorem in_X7_removeDependency : Cond.instanceMethod yX7_removeDependency ∈ qWA := qWA_in (List.mem_of_getElem? (i := 559) (by decide +kernel)) rfl
theorem se_X7_removeDependency : Cond.selects RX7 yX7_removeDependency yX7_removeDependency ∈ qWA := qWA_in (List.mem_of_getElem? (i := 560) (by decide +kernel)) rfl
theorem mw_X7_setDuration : qMw yX7_setDuration cX7_setDuration 4 2 (some .int) := ⟨qWA_in (List.mem_of_getElem? (i := 570) (by decide +kernel)) rfl, qWA_in (List.mem_of_getElem? (i := 63) (by decide +kernel)) rfl, ⟨by decide +kernel, by decide +kernel⟩, by decide +kernel⟩
theorem in_X7_setDuration : Cond.instanceMethod yX7_setDuration ∈ qWA := qWA_in (List.mem_of_getElem? (i := 568) (by decide +kernel)) rfl
theorem se_X7_setDuration : Cond.selects RX7 yX7_setDuration yX7_setDuration ∈ qWA := qWA_in (List.mem_of_getElem? (i := 569) (by decide +kernel)) rfl
theorem mw_X7_setRelease : qMw yX7_setRelease cX7_setRelease 4 2 (some .int) := ⟨qWA_in (List.mem_of_getElem? (i := 580) (by decide +kernel)) rfl, qWA_in (List.mem_of_getElem? (i := 63) (by decide +kernel)) rfl, ⟨by decide +kernel, by decide +kernel⟩, by decide +kernel⟩
theorem in_X7_setRelease : Cond.instanceMethod yX7_setRelease ∈ qWA := qWA_in (List.mem_of_getElem? (i := 578) (by decide +kernel)) rfl
theorem se_X7_setRelease : Cond.selects RX7 yX7_setRelease yX7_setRelease ∈ qWA := qWA_in (List.mem_of_getElem? (i := 579) (by decide +kernel)) rfl
theorem mw_X7_setLimit : qMw yX7_setLimit cX7_setLimit 4 2 (some .int) := ⟨qWA_in (List.mem_of_getElem? (i := 588) (by decide +kernel)) rfl, qWA_in (List.mem_of_getElem? (i := 63) (by decide +kernel)) rfl, ⟨by decide +kernel, by decide +kernel⟩, by decide +kernel⟩
theorem in_X7_setLimit : Cond.instanceMethod yX7_setLimit ∈ qWA := qWA_in (List.mem_of_getElem? (i := 586) (by decide +kernel)) rfl
theorem se_X7_setLimit : Cond.selects RX7 yX7_setLimit yX7_setLimit ∈ qWA := qWA_in (List.mem_of_getElem? (i := 587) (by decide +kernel)) rfl
theorem mw_X7_takeBaseline : qMw yX7_takeBaseline cX7_takeBaseline 2 0 (some .int) := ⟨qWA_in (List.mem_of_getElem? (i := 596) (by decide +kernel)) rfl, qWA_in (List.mem_of_getElem? (i := 63) (by decide +kernel)) rfl, ⟨by decide +kernel, by decide +kernel⟩, by decide +kernel⟩
theorem in_X7_takeBaseline : Cond.instanceMethod yX7_takeBaseline ∈ qWA := qWA_in (List.mem_of_getElem? (i := 594) (by decide +kernel)) rfl
theorem se_X7_takeBaseline : Cond.selects RX7 yX7_takeBaseline yX7_takeBaseline ∈ qWA := qWA_in (List.mem_of_getElem? (i := 595) (by decide +kernel)) rfl
theorem mw_X7_taskCount : qMw yX7_taskCount cX7_taskCount 1 0 (some .int) := ⟨qWA_in (List.mem_of_getElem? (i := 793) (by decide +kernel)) rfl, qWA_in (List.mem_of_getElem? (i := 63) (by decide +kernel)) rfl, ⟨by decide +kernel, by decide +kernel⟩, by decide +kernel⟩
theorem in_X7_taskCount : Cond.instanceMethod yX7_taskCount ∈ qWA := qWA_in (List.mem_of_getElem? (i := 791) (by decide +kernel)) rfl
theorem se_X7_taskCount : Cond.selects RX7 yX7_taskCount yX7_taskCount ∈ qWA := qWA_in (List.mem_of_getElem? (i := 792) (by decide +kernel)) rfl
theorem mw_X7_duration : qMw yX7_duration cX7_duration 2 1 (some .int) := ⟨qWA_in (List.mem_of_getElem? (i := 804) (by decide +kernel)) rfl, qWA_in (List.mem_of_getElem? (i := 63) (by decide +kernel)) rfl, ⟨by decide +kernel, by decide +kernel⟩, by decide +kernel⟩
theorem in_X7_duration : Cond.instanceMethod yX7_duration ∈ qWA := qWA_in (List.mem_of_getElem? (i := 802) (by decide +kernel)) rfl
theorem se_X7_duration : Cond.selects RX7 yX7_duration yX7_duration ∈ qWA := qWA_in (List.mem_of_getElem? (i := 803) (by decide +kernel)) rfl
theorem mw_X7_resource : qMw yX7_resource cX7_resource 2 1 (some .int) := ⟨qWA_in (List.mem_of_getElem? (i := 1055) (by decide +kernel)) rfl, qWA_in (List.mem_of_getElem? (i := 63) (by decide +kernel)) rfl, ⟨by decide +kernel, by decide +kernel⟩, by decide +kernel⟩
theorem in_X7_resource : Cond.instanceMethod yX7_resource ∈ qWA := qWA_in (List.mem_of_getElem? (i := 1053) (by decide +kernel)) rfl
theorem se_X7_resource : Cond.selects RX7 yX7_resource yX7_resource ∈ qWA := qWA_in (List.mem_of_getElem? (i := 1054) (by decide +kernel)) rfl
theorem mw_X7_demand : qMw yX7_demand cX7_demand 2 1 (some .int) := ⟨qWA_in (List.mem_of_getElem? (i := 1059) (by decide +kernel)) rfl, qWA_in (List.mem_of_getElem? (i := 63) (by decide +kernel)) rfl, ⟨by decide +kernel, by decide +kernel⟩, by decide +kernel⟩
theorem in_X7_demand : Cond.instanceMethod yX7_demand ∈ qWA := qWA_in (List.mem_of_getElem? (i := 1057) (by decide +kernel)) rfl
theorem se_X7_demand : Cond.selects RX7 yX7_demand yX7_demand ∈ qWA := qWA_in (List.mem_of_getElem? (i := 1058) (by decide +kernel)) rfl
theorem mw_X7_release : qMw yX7_release cX7_release 2 1 (some .int) := ⟨qWA_in (List.mem_of_getElem? (i := 995) (by decide +kernel)) rfl, qWA_in (List.mem_of_getElem? (i := 63) (by decide +kernel)) rfl, ⟨by decide +kernel, by decide +kernel⟩, by decide +kernel⟩
theorem in_X7_release : Cond.instanceMethod yX7_release ∈ qWA := qWA_in (List.mem_of_getElem? (i := 993) (by decide +kernel)) rfl
theorem se_X7_release : Cond.selects RX7 yX7_release yX7_release ∈ qWA := qWA_in (List.mem_of_getElem? (i := 994) (by decide +kernel)) rfl
theorem mw_X7_limit : qMw yX7_limit cX7_limit 2 1 (some .int) := ⟨qWA_in (List.mem_of_getElem? (i := 1063) (by decide +kernel)) rfl, qWA_in (List.mem_of_getElem? (i := 63) (by decide +kernel)) rfl, ⟨by decide +kernel, by decide +kernel⟩, by decide +kernel⟩
theorem in_X7_limit : Cond.instanceMethod yX7_limit ∈ qWA := qWA_in (List.mem_of_getElem? (i := 1061) (by decide +kernel)) rfl
theorem se_X7_limit : Cond.selects RX7 yX7_limit yX7_limit ∈ qWA := qWA_in (List.mem_of_getElem? (i := 1062) (by decide +kernel)) rfl
theorem mw_X7_dependsDirectly : qMw yX7_dependsDirectly cX7_dependsDirectly 3 2 (some .boolean) := ⟨qWA_in (List.mem_of_getElem? (i := 821) (by decide +kernel)) rfl, qWA_in (List.mem_of_getElem? (i := 63) (by decide +kernel)) rfl, ⟨by decide +kernel, by decide +kernel⟩, by decide +kernel⟩
theorem in_X7_dependsDirectly : Cond.instanceMethod yX7_dependsDirectly ∈ qWA := qWA_in (List.mem_of_getElem? (i := 819) (by decide +kernel)) rfl
theorem se_X7_dependsDirectly : Cond.selects RX7 yX7_dependsDirectly yX7_dependsDirectly ∈ qWA := qWA_in (List.mem_of_getElem? (i := 820) (by decide +kernel)) rfl
theorem mw_X7_depends : qMw yX7_depends cX7_depends 3 2 (some .boolean) := ⟨qWA_in (List.mem_of_getElem? (i := 832) (by decide +kernel)) rfl, qWA_in (List.mem_of_getElem? (i := 63) (by decide +kernel)) rfl, ⟨by decide +kernel, by decide +kernel⟩, by decide +kernel⟩
theorem in_X7_depends : Cond.instanceMethod yX7_depends ∈ qWA := qWA_in (List.mem_of_getElem? (i := 830) (by decide +kernel)) rfl
theorem se_X7_depends : Cond.selects RX7 yX7_depends yX7_depends ∈ qWA := qWA_in (List.mem_of_getElem? (i := 831) (by decide +kernel)) rfl
theorem mw_X7_dependsByClosure : qMw yX7_dependsByClosure cX7_dependsByClosure 3 2 (some .boolean) := ⟨qWA_in (List.mem_of_getElem? (i := 970) (by decide +kernel)) rfl, qWA_in (List.mem_of_getElem? (i := 63) (by decide +kernel)) rfl, ⟨by decide +kernel, by decide +kernel⟩, by decide +kernel⟩
theorem in_X7_dependsByClosure : Cond.instanceMethod yX7_dependsByClosure ∈ qWA := qWA_in (List.mem_of_getElem? (i := 968) (by decide +kernel)) rfl
theorem se_X7_dependsByClosure : Cond.selects RX7 yX7_dependsByClosure yX7_dependsByClosure ∈ qWA := qWA_in (List.mem_of_getElem? (i := 969) (by decide +kernel)) rfl
theorem mw_X7_neededCount : qMw yX7_neededCount cX7_neededCount 2 1 (some .int) := ⟨qWA_in (List.mem_of_getElem? (i := 975) (by decide +kernel)) rfl, qWA_in (List.mem_of_getElem? (i := 63) (by decide +kernel)) rfl, ⟨by decide +kernel, by decide +kernel⟩, by decide +kernel⟩
theorem in_X7_neededCount : Cond.instanceMethod yX7_neededCount ∈ qWA := qWA_in (List.mem_of_getElem? (i := 973) (by decide +kernel)) rfl
theorem se_X7_neededCount : Cond.selects RX7 yX7_neededCount yX7_neededCount ∈ qWA := qWA_in (List.mem_of_getElem? (i := 974) (by decide +kernel)) rfl
theorem mw_X7_dependentCount : qMw yX7_dependentCount cX7_dependentCount 4 1 (some .int) := ⟨qWA_in (List.mem_of_getElem? (i := 985) (by decide +kernel)) rfl, qWA_in (List.mem_of_getElem? (i := 63) (by decide +kernel)) rfl, ⟨by decide +kernel, by decide +kernel⟩, by decide +kernel⟩
theorem in_X7_dependentCount : Cond.instanceMethod yX7_dependentCount ∈ qWA := qWA_in (List.mem_of_getElem? (i := 983) (by decide +kernel)) rfl
theorem se_X7_dependentCount : Cond.selects RX7 yX7_dependentCount yX7_dependentCount ∈ qWA := qWA_in (List.mem_of_getElem? (i := 984) (by decide +kernel)) rfl
theorem mw_X7_taskInOrder : qMw yX7_taskInOrder cX7_taskInOrder 2 1 (some .int) := ⟨qWA_in (List.mem_of_getElem? (i := 837) (by decide +kernel)) rfl, qWA_in (List.mem_of_getElem? (i := 63) (by decide +kernel)) rfl, ⟨by decide +kernel, by decide +kernel⟩, by decide +kernel⟩
theorem in_X7_taskInOrder : Cond.instanceMethod yX7_taskInOrder ∈ qWA := qWA_in (List.mem_of_getElem? (i := 835) (by decide +kernel)) rfl
theorem se_X7_taskInOrder : Cond.selects RX7 yX7_taskInOrder yX7_taskInOrder ∈ qWA := qWA_in (List.mem_of_getElem? (i := 836) (by decide +kernel)) rfl
theorem mw_X7_earliestStart : qMw yX7_earliestStart cX7_earliestStart 2 1 (some .int) := ⟨qWA_in (List.mem_of_getElem? (i := 859) (by decide +kernel)) rfl, qWA_in (List.mem_of_getElem? (i := 63) (by decide +kernel)) rfl, ⟨by decide +kernel, by decide +kernel⟩, by decide +kernel⟩
theorem in_X7_earliestStart : Cond.instanceMethod yX7_earliestStart ∈ qWA := qWA_in (List.mem_of_getElem? (i := 857) (by decide +kernel)) rfl
theorem se_X7_earliestStart : Cond.selects RX7 yX7_earliestStart yX7_earliestStart ∈ qWA := qWA_in (List.mem_of_getElem? (i := 858) (by decide +kernel)) rfl
theorem mw_X7_earliestStartByRounds : qMw yX7_earliestStartByRounds cX7_earliestStartByRounds 2 1 (some .int) := ⟨qWA_in (List.mem_of_getElem? (i := 1010) (by decide +kernel)) rfl, qWA_in (List.mem_of_getElem? (i := 63) (by decide +kernel)) rfl, ⟨by decide +kernel, by decide +kernel⟩, by decide +kernel⟩
theorem in_X7_earliestStartByRounds : Cond.instanceMethod yX7_earliestStartByRounds ∈ qWA := qWA_in (List.mem_of_getElem? (i := 1008) (by decide +kernel)) rfl
theorem se_X7_earliestStartByRounds : Cond.selects RX7 yX7_earliestStartByRounds yX7_earliestStartByRounds ∈ qWA := qWA_in (List.mem_of_getElem? (i := 1009) (by decide +kernel)) rfl
theorem mw_X7_latestStart : qMw yX7_latestStart cX7_latestStart 2 1 (some .int) := ⟨qWA_in (List.mem_of_getElem? (i := 1014) (by decide +kernel)) rfl, qWA_in (List.mem_of_getElem? (i := 63) (by decide +kernel)) rfl, ⟨by decide +kernel, by decide +kernel⟩, by decide +kernel⟩
theorem in_X7_latestStart : Cond.instanceMethod yX7_latestStart ∈ qWA := qWA_in (List.mem_of_getElem? (i := 1012) (by decide +kernel)) rfl
theorem se_X7_latestStart : Cond.selects RX7 yX7_latestStart yX7_latestStart ∈ qWA := qWA_in (List.mem_of_getElem? (i := 1013) (by decide +kernel)) rfl
theorem mw_X7_slack : qMw yX7_slack cX7_slack 2 1 (some .int) := ⟨qWA_in (List.mem_of_getElem? (i := 1018) (by decide +kernel)) rfl, qWA_in (List.mem_of_getElem? (i := 63) (by decide +kernel)) rfl, ⟨by decide +kernel, by decide +kernel⟩, by decide +kernel⟩
theorem in_X7_slack : Cond.instanceMethod yX7_slack ∈ qWA := qWA_in (List.mem_of_getElem? (i := 1016) (by decide +kernel)) rfl
theorem se_X7_slack : Cond.selects RX7 yX7_slack yX7_slack ∈ qWA := qWA_in (List.mem_of_getElem? (i := 1017) (by decide +kernel)) rfl
theorem mw_X7_isCritical : qMw yX7_isCritical cX7_isCritical 2 1 (some .boolean) := ⟨qWA_in (List.mem_of_getElem? (i := 1022) (by decide +kernel)) rfl, qWA_in (List.mem_of_getElem? (i := 63) (by decide +kernel)) rfl, ⟨by decide +kernel, by decide +kernel⟩, by decide +kernel⟩
theorem in_X7_isCritical : Cond.instanceMethod yX7_isCritical ∈ qWA := qWA_in (List.mem_of_getElem? (i := 1020) (by decide +kernel)) rfl
theorem se_X7_isCritical : Cond.selects RX7 yX7_isCritical yX7_isCritical ∈ qWA := qWA_in (List.mem_of_getElem? (i := 1021) (by decide +kernel)) rfl
theorem mw_X7_projectLength : qMw yX7_projectLength cX7_projectLength 1 0 (some .int) := ⟨qWA_in (List.mem_of_getElem? (i := 1006) (by decide +kernel)) rfl, qWA_in (List.mem_of_getElem? (i := 63) (by decide +kernel)) rfl, ⟨by decide +kernel, by decide +kernel⟩, by decide +kernel⟩
theorem in_X7_projectLength : Cond.instanceMethod yX7_projectLength ∈ qWA := qWA_in (List.mem_of_getElem? (i := 1004) (by decide +kernel)) rfl
theorem se_X7_projectLength : Cond.selects RX7 yX7_projectLength yX7_projectLength ∈ qWA := qWA_in (List.mem_of_getElem? (i := 1005) (by decide +kernel)) rfl
theorem mw_X7_criticalCount : qMw yX7_criticalCount cX7_criticalCount 4 0 (some .int) := ⟨qWA_in (List.mem_of_getElem? (i := 1026) (by decide +kernel)) rfl, qWA_in (List.mem_of_getElem? (i := 63) (by decide +kernel)) rfl, ⟨by decide +kernel, by decide +kernel⟩, by decide +kernel⟩
theorem in_X7_criticalCount : Cond.instanceMethod yX7_criticalCount ∈ qWA := qWA_in (List.mem_of_getElem? (i := 1024) (by decide +kernel)) rfl
theorem se_X7_criticalCount : Cond.selects RX7 yX7_criticalCount yX7_criticalCount ∈ qWA := qWA_in (List.mem_of_getElem? (i := 1025) (by decide +kernel)) rfl
theorem mw_X7_lastTask : qMw yX7_lastTask cX7_lastTask 3 0 (some .int) := ⟨qWA_in (List.mem_of_getElem? (i := 863) (by decide +kernel)) rfl, qWA_in (List.mem_of_getElem? (i := 63) (by decide +kernel)) rfl, ⟨by decide +kernel, by decide +kernel⟩, by decide +kernel⟩
theorem in_X7_lastTask : Cond.instanceMethod yX7_lastTask ∈ qWA := qWA_in (List.mem_of_getElem? (i := 861) (by decide +kernel)) rfl
theorem se_X7_lastTask : Cond.selects RX7 yX7_lastTask yX7_lastTask ∈ qWA := qWA_in (List.mem_of_getElem? (i := 862) (by decide +kernel)) rfl
theorem mw_X7_levelledStart : qMw yX7_levelledStart cX7_levelledStart 2 1 (some .int) := ⟨qWA_in (List.mem_of_getElem? (i := 868) (by decide +kernel)) rfl, qWA_in (List.mem_of_getElem? (i := 63) (by decide +kernel)) rfl, ⟨by decide +kernel, by decide +kernel⟩, by decide +kernel⟩
theorem in_X7_levelledStart : Cond.instanceMethod yX7_levelledStart ∈ qWA := qWA_in (List.mem_of_getElem? (i := 866) (by decide +kernel)) rfl
theorem se_X7_levelledStart : Cond.selects RX7 yX7_levelledStart yX7_levelledStart ∈ qWA := qWA_in (List.mem_of_getElem? (i := 867) (by decide +kernel)) rfl
theorem mw_X7_levelledLength : qMw yX7_levelledLength cX7_levelledLength 1 0 (some .int) := ⟨qWA_in (List.mem_of_getElem? (i := 1070) (by decide +kernel)) rfl, qWA_in (List.mem_of_getElem? (i := 63) (by decide +kernel)) rfl, ⟨by decide +kernel, by decide +kernel⟩, by decide +kernel⟩
theorem in_X7_levelledLength : Cond.instanceMethod yX7_levelledLength ∈ qWA := qWA_in (List.mem_of_getElem? (i := 1068) (by decide +kernel)) rfl
theorem se_X7_levelledLength : Cond.selects RX7 yX7_levelledLength yX7_levelledLength ∈ qWA := qWA_in (List.mem_of_getElem? (i := 1069) (by decide +kernel)) rfl
theorem mw_X7_usage : qMw yX7_usage cX7_usage 3 2 (some .int) := ⟨qWA_in (List.mem_of_getElem? (i := 872) (by decide +kernel)) rfl, qWA_in (List.mem_of_getElem? (i := 63) (by decide +kernel)) rfl, ⟨by decide +kernel, by decide +kernel⟩, by decide +kernel⟩
theorem in_X7_usage : Cond.instanceMethod yX7_usage ∈ qWA := qWA_in (List.mem_of_getElem? (i := 870) (by decide +kernel)) rfl
theorem se_X7_usage : Cond.selects RX7 yX7_usage yX7_usage ∈ qWA := qWA_in (List.mem_of_getElem? (i := 871) (by decide +kernel)) rfl
theorem mw_X7_usageByTasks : qMw yX7_usageByTasks cX7_usageByTasks 5 2 (some .int) := ⟨qWA_in (List.mem_of_getElem? (i := 1289) (by decide +kernel)) rfl, qWA_in (List.mem_of_getElem? (i := 63) (by decide +kernel)) rfl, ⟨by decide +kernel, by decide +kernel⟩, by decide +kernel⟩
theorem in_X7_usageByTasks : Cond.instanceMethod yX7_usageByTasks ∈ qWA := qWA_in (List.mem_of_getElem? (i := 1287) (by decide +kernel)) rfl
theorem se_X7_usageByTasks : Cond.selects RX7 yX7_usageByTasks yX7_usageByTasks ∈ qWA := qWA_in (List.mem_of_getElem? (i := 1288) (by decide +kernel)) rfl
theorem mw_X7_peakUsage : qMw yX7_peakUsage cX7_peakUsage 5 1 (some .int) := ⟨qWA_in (List.mem_of_getElem? (i := 1293) (by decide +kernel)) rfl, qWA_in (List.mem_of_getElem? (i := 63) (by decide +kernel)) rfl, ⟨by decide +kernel, by decide +kernel⟩, by decide +kernel⟩
theorem in_X7_peakUsage : Cond.instanceMethod yX7_peakUsage ∈ qWA := qWA_in (List.mem_of_getElem? (i := 1291) (by decide +kernel)) rfl
theorem se_X7_peakUsage : Cond.selects RX7 yX7_peakUsage yX7_peakUsage ∈ qWA := qWA_in (List.mem_of_getElem? (i := 1292) (by decide +kernel)) rfl
theorem mw_X7_tasksOn : qMw yX7_tasksOn cX7_tasksOn 4 1 (some .int) := ⟨qWA_in (List.mem_of_getElem? (i := 959) (by decide +kernel)) rfl, qWA_in (List.mem_of_getElem? (i := 63) (by decide +kernel)) rfl, ⟨by decide +kernel, by decide +kernel⟩, by decide +kernel⟩
theorem in_X7_tasksOn : Cond.instanceMethod yX7_tasksOn ∈ qWA := qWA_in (List.mem_of_getElem? (i := 957) (by decide +kernel)) rfl
theorem se_X7_tasksOn : Cond.selects RX7 yX7_tasksOn yX7_tasksOn ∈ qWA := qWA_in (List.mem_of_getElem? (i := 958) (by decide +kernel)) rfl
theorem mw_X7_workload : qMw yX7_workload cX7_workload 2 1 (some .int) := ⟨qWA_in (List.mem_of_getElem? (i := 1297) (by decide +kernel)) rfl, qWA_in (List.mem_of_getElem? (i := 63) (by decide +kernel)) rfl, ⟨by decide +kernel, by decide +kernel⟩, by decide +kernel⟩
theorem in_X7_workload : Cond.instanceMethod yX7_workload ∈ qWA := qWA_in (List.mem_of_getElem? (i := 1295) (by decide +kernel)) rfl
theorem se_X7_workload : Cond.selects RX7 yX7_workload yX7_workload ∈ qWA := qWA_in (List.mem_of_getElem? (i := 1296) (by decide +kernel)) rfl
theorem mw_X7_workloadByDays : qMw yX7_workloadByDays cX7_workloadByDays 2 1 (some .int) := ⟨qWA_in (List.mem_of_getElem? (i := 1305) (by decide +kernel)) rfl, qWA_in (List.mem_of_getElem? (i := 63) (by decide +kernel)) rfl, ⟨by decide +kernel, by decide +kernel⟩, by decide +kernel⟩
theorem in_X7_workloadByDays : Cond.instanceMethod yX7_workloadByDays ∈ qWA := qWA_in (List.mem_of_getElem? (i := 1303) (by decide +kernel)) rfl
theorem se_X7_workloadByDays : Cond.selects RX7 yX7_workloadByDays yX7_workloadByDays ∈ qWA := qWA_in (List.mem_of_getElem? (i := 1304) (by decide +kernel)) rfl
theorem mw_X7_hasBaseline : qMw yX7_hasBaseline cX7_hasBaseline 1 0 (some .boolean) := ⟨qWA_in (List.mem_of_getElem? (i := 1372) (by decide +kernel)) rfl, qWA_in (List.mem_of_getElem? (i := 63) (by decide +kernel)) rfl, ⟨by decide +kernel, by decide +kernel⟩, by decide +kernel⟩
theorem in_X7_hasBaseline : Cond.instanceMethod yX7_hasBaseline ∈ qWA := qWA_in (List.mem_of_getElem? (i := 1370) (by decide +kernel)) rfl
theorem se_X7_hasBaseline : Cond.selects RX7 yX7_hasBaseline yX7_hasBaseline ∈ qWA := qWA_in (List.mem_of_getElem? (i := 1371) (by decide +kernel)) rfl
theorem mw_X7_baselineStart : qMw yX7_baselineStart cX7_baselineStart 2 1 (some .int) := ⟨qWA_in (List.mem_of_getElem? (i := 888) (by decide +kernel)) rfl, qWA_in (List.mem_of_getElem? (i := 63) (by decide +kernel)) rfl, ⟨by decide +kernel, by decide +kernel⟩, by decide +kernel⟩
theorem in_X7_baselineStart : Cond.instanceMethod yX7_baselineStart ∈ qWA := qWA_in (List.mem_of_getElem? (i := 886) (by decide +kernel)) rfl
theorem se_X7_baselineStart : Cond.selects RX7 yX7_baselineStart yX7_baselineStart ∈ qWA := qWA_in (List.mem_of_getElem? (i := 887) (by decide +kernel)) rfl
theorem mw_X7_drift : qMw yX7_drift cX7_drift 2 1 (some .int) := ⟨qWA_in (List.mem_of_getElem? (i := 955) (by decide +kernel)) rfl, qWA_in (List.mem_of_getElem? (i := 63) (by decide +kernel)) rfl, ⟨by decide +kernel, by decide +kernel⟩, by decide +kernel⟩
theorem in_X7_drift : Cond.instanceMethod yX7_drift ∈ qWA := qWA_in (List.mem_of_getElem? (i := 953) (by decide +kernel)) rfl
theorem se_X7_drift : Cond.selects RX7 yX7_drift yX7_drift ∈ qWA := qWA_in (List.mem_of_getElem? (i := 954) (by decide +kernel)) rfl
theorem mw_X7_totalDrift : qMw yX7_totalDrift cX7_totalDrift 3 0 (some .int) := ⟨qWA_in (List.mem_of_getElem? (i := 901) (by decide +kernel)) rfl, qWA_in (List.mem_of_getElem? (i := 63) (by decide +kernel)) rfl, ⟨by decide +kernel, by decide +kernel⟩, by decide +kernel⟩
theorem in_X7_totalDrift : Cond.instanceMethod yX7_totalDrift ∈ qWA := qWA_in (List.mem_of_getElem? (i := 899) (by decide +kernel)) rfl
theorem se_X7_totalDrift : Cond.selects RX7 yX7_totalDrift yX7_totalDrift ∈ qWA := qWA_in (List.mem_of_getElem? (i := 900) (by decide +kernel)) rfl
theorem mw_X7_taskBySlack : qMw yX7_taskBySlack cX7_taskBySlack 4 1 (some .int) := ⟨qWA_in (List.mem_of_getElem? (i := 913) (by decide +kernel)) rfl, qWA_in (List.mem_of_getElem? (i := 63) (by decide +kernel)) rfl, ⟨by decide +kernel, by decide +kernel⟩, by decide +kernel⟩
theorem in_X7_taskBySlack : Cond.instanceMethod yX7_taskBySlack ∈ qWA := qWA_in (List.mem_of_getElem? (i := 911) (by decide +kernel)) rfl
theorem se_X7_taskBySlack : Cond.selects RX7 yX7_taskBySlack yX7_taskBySlack ∈ qWA := qWA_in (List.mem_of_getElem? (i := 912) (by decide +kernel)) rfl
theorem mw_X7_taskByStart : qMw yX7_taskByStart cX7_taskByStart 4 1 (some .int) := ⟨qWA_in (List.mem_of_getElem? (i := 933) (by decide +kernel)) rfl, qWA_in (List.mem_of_getElem? (i := 63) (by decide +kernel)) rfl, ⟨by decide +kernel, by decide +kernel⟩, by decide +kernel⟩
theorem in_X7_taskByStart : Cond.instanceMethod yX7_taskByStart ∈ qWA := qWA_in (List.mem_of_getElem? (i := 931) (by decide +kernel)) rfl
theorem se_X7_taskByStart : Cond.selects RX7 yX7_taskByStart yX7_taskByStart ∈ qWA := qWA_in (List.mem_of_getElem? (i := 932) (by decide +kernel)) rfl
theorem mw_X7_meanSlack : qMw yX7_meanSlack cX7_meanSlack 5 0 (some .double) := ⟨qWA_in (List.mem_of_getElem? (i := 1030) (by decide +kernel)) rfl, qWA_in (List.mem_of_getElem? (i := 63) (by decide +kernel)) rfl, ⟨by decide +kernel, by decide +kernel⟩, by decide +kernel⟩
theorem in_X7_meanSlack : Cond.instanceMethod yX7_meanSlack ∈ qWA := qWA_in (List.mem_of_getElem? (i := 1028) (by decide +kernel)) rfl
theorem se_X7_meanSlack : Cond.selects RX7 yX7_meanSlack yX7_meanSlack ∈ qWA := qWA_in (List.mem_of_getElem? (i := 1029) (by decide +kernel)) rfl
theorem mw_X7_utilization : qMw yX7_utilization cX7_utilization 3 1 (some .float) := ⟨qWA_in (List.mem_of_getElem? (i := 1342) (by decide +kernel)) rfl, qWA_in (List.mem_of_getElem? (i := 63) (by decide +kernel)) rfl, ⟨by decide +kernel, by decide +kernel⟩, by decide +kernel⟩
theorem in_X7_utilization : Cond.instanceMethod yX7_utilization ∈ qWA := qWA_in (List.mem_of_getElem? (i := 1340) (by decide +kernel)) rfl
theorem se_X7_utilization : Cond.selects RX7 yX7_utilization yX7_utilization ∈ qWA := qWA_in (List.mem_of_getElem? (i := 1341) (by decide +kernel)) rfl
theorem mw_X7_isConsistent : qMw yX7_isConsistent cX7_isConsistent 1 0 (some .boolean) := ⟨qWA_in (List.mem_of_getElem? (i := 1346) (by decide +kernel)) rfl, qWA_in (List.mem_of_getElem? (i := 63) (by decide +kernel)) rfl, ⟨by decide +kernel, by decide +kernel⟩, by decide +kernel⟩
theorem in_X7_isConsistent : Cond.instanceMethod yX7_isConsistent ∈ qWA := qWA_in (List.mem_of_getElem? (i := 1344) (by decide +kernel)) rfl
theorem se_X7_isConsistent : Cond.selects RX7 yX7_isConsistent yX7_isConsistent ∈ qWA := qWA_in (List.mem_of_getElem? (i := 1345) (by decide +kernel)) rfl
theorem mw_X7_renderTask : qMw yX7_renderTask cX7_renderTask 4 1 (some .int) := ⟨qWA_in (List.mem_of_getElem? (i := 1376) (by decide +kernel)) rfl, qWA_in (List.mem_of_getElem? (i := 63) (by decide +kernel)) rfl, ⟨by decide +kernel, by decide +kernel⟩, by decide +kernel⟩
theorem in_X7_renderTask : Cond.instanceMethod yX7_renderTask ∈ qWA := qWA_in (List.mem_of_getElem? (i := 1374) (by decide +kernel)) rfl
theorem se_X7_renderTask : Cond.selects RX7 yX7_renderTask yX7_renderTask ∈ qWA := qWA_in (List.mem_of_getElem? (i := 1375) (by decide +kernel)) rfl
theorem mw_X7_renderUsage : qMw yX7_renderUsage cX7_renderUsage 4 1 (some .int) := ⟨qWA_in (List.mem_of_getElem? (i := 1314) (by decide +kernel)) rfl, qWA_in (List.mem_of_getElem? (i := 63) (by decide +kernel)) rfl, ⟨by decide +kernel, by decide +kernel⟩, by decide +kernel⟩
theorem in_X7_renderUsage : Cond.instanceMethod yX7_renderUsage ∈ qWA := qWA_in (List.mem_of_getElem? (i := 1312) (by decide +kernel)) rfl
theorem se_X7_renderUsage : Cond.selects RX7 yX7_renderUsage yX7_renderUsage ∈ qWA := qWA_in (List.mem_of_getElem? (i := 1313) (by decide +kernel)) rfl
theorem mw_X7_outputAt : qMw yX7_outputAt cX7_outputAt 2 1 (some .char) := ⟨qWA_in (List.mem_of_getElem? (i := 1335) (by decide +kernel)) rfl, qWA_in (List.mem_of_getElem? (i := 63) (by decide +kernel)) rfl, ⟨by decide +kernel, by decide +kernel⟩, by decide +kernel⟩
theorem in_X7_outputAt : Cond.instanceMethod yX7_outputAt ∈ qWA := qWA_in (List.mem_of_getElem? (i := 1333) (by decide +kernel)) rfl
theorem se_X7_outputAt : Cond.selects RX7 yX7_outputAt yX7_outputAt ∈ qWA := qWA_in (List.mem_of_getElem? (i := 1334) (by decide +kernel)) rfl
theorem mw_X7_beginChange : qMw yX7_beginChange cX7_beginChange 1 0 none := ⟨qWA_in (List.mem_of_getElem? (i := 477) (by decide +kernel)) rfl, qWA_in (List.mem_of_getElem? (i := 63) (by decide +kernel)) rfl, ⟨by decide +kernel, by decide +kernel⟩, by decide +kernel⟩
theorem in_X7_beginChange : Cond.instanceMethod yX7_beginChange ∈ qWA := qWA_in (List.mem_of_getElem? (i := 476) (by decide +kernel)) rfl
theorem se_X7_beginChange : Cond.selects RX7 yX7_beginChange yX7_beginChange ∈ qWA := qWA_in (List.mem_of_getElem? (i := 2) (by decide +kernel)) rfl
theorem mw_X7_currentPlan : qMw yX7_currentPlan cX7_currentPlan 1 0 (some (.object "TaskLeveller$Plan")) := ⟨qWA_in (List.mem_of_getElem? (i := 600) (by decide +kernel)) rfl, qWA_in (List.mem_of_getElem? (i := 63) (by decide +kernel)) rfl, ⟨by decide +kernel, by decide +kernel⟩, by decide +kernel⟩
theorem in_X7_currentPlan : Cond.instanceMethod yX7_currentPlan ∈ qWA := qWA_in (List.mem_of_getElem? (i := 599) (by decide +kernel)) rfl
theorem se_X7_currentPlan : Cond.selects RX7 yX7_currentPlan yX7_currentPlan ∈ qWA := qWA_in (List.mem_of_getElem? (i := 18) (by decide +kernel)) rfl
theorem mw_X7_isWorkedOn : qMw yX7_isWorkedOn cX7_isWorkedOn 4 2 (some .boolean) := ⟨qWA_in (List.mem_of_getElem? (i := 963) (by decide +kernel)) rfl, qWA_in (List.mem_of_getElem? (i := 63) (by decide +kernel)) rfl, ⟨by decide +kernel, by decide +kernel⟩, by decide +kernel⟩
theorem in_X7_isWorkedOn : Cond.instanceMethod yX7_isWorkedOn ∈ qWA := qWA_in (List.mem_of_getElem? (i := 962) (by decide +kernel)) rfl
theorem se_X7_isWorkedOn : Cond.selects RX7 yX7_isWorkedOn yX7_isWorkedOn ∈ qWA := qWA_in (List.mem_of_getElem? (i := 53) (by decide +kernel)) rfl
theorem mw_X7_driftOf : qMw yX7_driftOf cX7_driftOf 2 1 (some .int) := ⟨qWA_in (List.mem_of_getElem? (i := 906) (by decide +kernel)) rfl, qWA_in (List.mem_of_getElem? (i := 63) (by decide +kernel)) rfl, ⟨by decide +kernel, by decide +kernel⟩, by decide +kernel⟩
theorem in_X7_driftOf : Cond.instanceMethod yX7_driftOf ∈ qWA := qWA_in (List.mem_of_getElem? (i := 905) (by decide +kernel)) rfl
theorem se_X7_driftOf : Cond.selects RX7 yX7_driftOf yX7_driftOf ∈ qWA := qWA_in (List.mem_of_getElem? (i := 48) (by decide +kernel)) rfl
theorem mw_X7_sortingKey : qMw yX7_sortingKey cX7_sortingKey 2 2 (some .int) := ⟨qWA_in (List.mem_of_getElem? (i := 920) (by decide +kernel)) rfl, qWA_in (List.mem_of_getElem? (i := 63) (by decide +kernel)) rfl, ⟨by decide +kernel, by decide +kernel⟩, by decide +kernel⟩
theorem st_X7_sortingKey : Cond.static yX7_sortingKey ∈ qWA := qWA_in (List.mem_of_getElem? (i := 919) (by decide +kernel)) rfl
theorem mw_X7_taskAtRank : qMw yX7_taskAtRank cX7_taskAtRank 3 1 (some .int) := ⟨qWA_in (List.mem_of_getElem? (i := 924) (by decide +kernel)) rfl, qWA_in (List.mem_of_getElem? (i := 63) (by decide +kernel)) rfl, ⟨by decide +kernel, by decide +kernel⟩, by decide +kernel⟩
theorem in_X7_taskAtRank : Cond.instanceMethod yX7_taskAtRank ∈ qWA := qWA_in (List.mem_of_getElem? (i := 923) (by decide +kernel)) rfl
theorem se_X7_taskAtRank : Cond.selects RX7 yX7_taskAtRank yX7_taskAtRank ∈ qWA := qWA_in (List.mem_of_getElem? (i := 50) (by decide +kernel)) rfl
theorem mw_X7_countBefore : qMw yX7_countBefore cX7_countBefore 6 1 (some .int) := ⟨qWA_in (List.mem_of_getElem? (i := 928) (by decide +kernel)) rfl, qWA_in (List.mem_of_getElem? (i := 63) (by decide +kernel)) rfl, ⟨by decide +kernel, by decide +kernel⟩, by decide +kernel⟩
theorem in_X7_countBefore : Cond.instanceMethod yX7_countBefore ∈ qWA := qWA_in (List.mem_of_getElem? (i := 927) (by decide +kernel)) rfl
theorem se_X7_countBefore : Cond.selects RX7 yX7_countBefore yX7_countBefore ∈ qWA := qWA_in (List.mem_of_getElem? (i := 51) (by decide +kernel)) rfl
theorem mw_X7_startsAgree : qMw yX7_startsAgree cX7_startsAgree 4 0 (some .boolean) := ⟨qWA_in (List.mem_of_getElem? (i := 1350) (by decide +kernel)) rfl, qWA_in (List.mem_of_getElem? (i := 63) (by decide +kernel)) rfl, ⟨by decide +kernel, by decide +kernel⟩, by decide +kernel⟩
theorem in_X7_startsAgree : Cond.instanceMethod yX7_startsAgree ∈ qWA := qWA_in (List.mem_of_getElem? (i := 1349) (by decide +kernel)) rfl
theorem se_X7_startsAgree : Cond.selects RX7 yX7_startsAgree yX7_startsAgree ∈ qWA := qWA_in (List.mem_of_getElem? (i := 59) (by decide +kernel)) rfl
theorem mw_X7_dependenciesAgree : qMw yX7_dependenciesAgree cX7_dependenciesAgree 5 0 (some .boolean) := ⟨qWA_in (List.mem_of_getElem? (i := 1354) (by decide +kernel)) rfl, qWA_in (List.mem_of_getElem? (i := 63) (by decide +kernel)) rfl, ⟨by decide +kernel, by decide +kernel⟩, by decide +kernel⟩
theorem in_X7_dependenciesAgree : Cond.instanceMethod yX7_dependenciesAgree ∈ qWA := qWA_in (List.mem_of_getElem? (i := 1353) (by decide +kernel)) rfl
theorem se_X7_dependenciesAgree : Cond.selects RX7 yX7_dependenciesAgree yX7_dependenciesAgree ∈ qWA := qWA_in (List.mem_of_getElem? (i := 60) (by decide +kernel)) rfl
theorem mw_X7_workloadsAgree : qMw yX7_workloadsAgree cX7_workloadsAgree 3 0 (some .boolean) := ⟨qWA_in (List.mem_of_getElem? (i := 1358) (by decide +kernel)) rfl, qWA_in (List.mem_of_getElem? (i := 63) (by decide +kernel)) rfl, ⟨by decide +kernel, by decide +kernel⟩, by decide +kernel⟩
theorem in_X7_workloadsAgree : Cond.instanceMethod yX7_workloadsAgree ∈ qWA := qWA_in (List.mem_of_getElem? (i := 1357) (by decide +kernel)) rfl
theorem se_X7_workloadsAgree : Cond.selects RX7 yX7_workloadsAgree yX7_workloadsAgree ∈ qWA := qWA_in (List.mem_of_getElem? (i := 61) (by decide +kernel)) rfl
theorem mw_X7_requireTask : qMw yX7_requireTask cX7_requireTask 2 1 none := ⟨qWA_in (List.mem_of_getElem? (i := 808) (by decide +kernel)) rfl, qWA_in (List.mem_of_getElem? (i := 63) (by decide +kernel)) rfl, ⟨by decide +kernel, by decide +kernel⟩, by decide +kernel⟩
theorem in_X7_requireTask : Cond.instanceMethod yX7_requireTask ∈ qWA := qWA_in (List.mem_of_getElem? (i := 807) (by decide +kernel)) rfl
theorem se_X7_requireTask : Cond.selects RX7 yX7_requireTask yX7_requireTask ∈ qWA := qWA_in (List.mem_of_getElem? (i := 44) (by decide +kernel)) rfl
theorem mw_X7_requireResource : qMw yX7_requireResource cX7_requireResource 1 1 none := ⟨qWA_in (List.mem_of_getElem? (i := 875) (by decide +kernel)) rfl, qWA_in (List.mem_of_getElem? (i := 63) (by decide +kernel)) rfl, ⟨by decide +kernel, by decide +kernel⟩, by decide +kernel⟩
theorem st_X7_requireResource : Cond.static yX7_requireResource ∈ qWA := qWA_in (List.mem_of_getElem? (i := 874) (by decide +kernel)) rfl
theorem mw_X7_requireDay : qMw yX7_requireDay cX7_requireDay 1 1 none := ⟨qWA_in (List.mem_of_getElem? (i := 879) (by decide +kernel)) rfl, qWA_in (List.mem_of_getElem? (i := 63) (by decide +kernel)) rfl, ⟨by decide +kernel, by decide +kernel⟩, by decide +kernel⟩
theorem st_X7_requireDay : Cond.static yX7_requireDay ∈ qWA := qWA_in (List.mem_of_getElem? (i := 878) (by decide +kernel)) rfl
theorem mw_X7_requireBaselineStart : qMw yX7_requireBaselineStart cX7_requireBaselineStart 2 1 none := ⟨qWA_in (List.mem_of_getElem? (i := 892) (by decide +kernel)) rfl, qWA_in (List.mem_of_getElem? (i := 63) (by decide +kernel)) rfl, ⟨by decide +kernel, by decide +kernel⟩, by decide +kernel⟩
theorem in_X7_requireBaselineStart : Cond.instanceMethod yX7_requireBaselineStart ∈ qWA := qWA_in (List.mem_of_getElem? (i := 891) (by decide +kernel)) rfl
theorem se_X7_requireBaselineStart : Cond.selects RX7 yX7_requireBaselineStart yX7_requireBaselineStart ∈ qWA := qWA_in (List.mem_of_getElem? (i := 46) (by decide +kernel)) rfl
theorem mw_X7_refuse : qMw yX7_refuse cX7_refuse 1 1 none := ⟨qWA_in (List.mem_of_getElem? (i := 412) (by decide +kernel)) rfl, qWA_in (List.mem_of_getElem? (i := 63) (by decide +kernel)) rfl, ⟨by decide +kernel, by decide +kernel⟩, by decide +kernel⟩
theorem st_X7_refuse : Cond.static yX7_refuse ∈ qWA := qWA_in (List.mem_of_getElem? (i := 411) (by decide +kernel)) rfl
theorem mw_X7_isWithin : qMw yX7_isWithin cX7_isWithin 3 3 (some .boolean) := ⟨qWA_in (List.mem_of_getElem? (i := 409) (by decide +kernel)) rfl, qWA_in (List.mem_of_getElem? (i := 63) (by decide +kernel)) rfl, ⟨by decide +kernel, by decide +kernel⟩, by decide +kernel⟩
theorem st_X7_isWithin : Cond.static yX7_isWithin ∈ qWA := qWA_in (List.mem_of_getElem? (i := 408) (by decide +kernel)) rfl
theorem mw_X7_hasBit : qMw yX7_hasBit cX7_hasBit 2 2 (some .boolean) := ⟨qWA_in (List.mem_of_getElem? (i := 546) (by decide +kernel)) rfl, qWA_in (List.mem_of_getElem? (i := 63) (by decide +kernel)) rfl, ⟨by decide +kernel, by decide +kernel⟩, by decide +kernel⟩
theorem st_X7_hasBit : Cond.static yX7_hasBit ∈ qWA := qWA_in (List.mem_of_getElem? (i := 545) (by decide +kernel)) rfl
theorem mw_X7_at : qMw yX7_at cX7_at 2 2 (some .int) := ⟨qWA_in (List.mem_of_getElem? (i := 523) (by decide +kernel)) rfl, qWA_in (List.mem_of_getElem? (i := 63) (by decide +kernel)) rfl, ⟨by decide +kernel, by decide +kernel⟩, by decide +kernel⟩
theorem st_X7_at : Cond.static yX7_at ∈ qWA := qWA_in (List.mem_of_getElem? (i := 522) (by decide +kernel)) rfl
theorem mw_X7_put : qMw yX7_put cX7_put 3 3 none := ⟨qWA_in (List.mem_of_getElem? (i := 502) (by decide +kernel)) rfl, qWA_in (List.mem_of_getElem? (i := 63) (by decide +kernel)) rfl, ⟨by decide +kernel, by decide +kernel⟩, by decide +kernel⟩
theorem st_X7_put : Cond.static yX7_put ∈ qWA := qWA_in (List.mem_of_getElem? (i := 501) (by decide +kernel)) rfl
theorem mw_X7_charAt : qMw yX7_charAt cX7_charAt 2 2 (some .char) := ⟨qWA_in (List.mem_of_getElem? (i := 747) (by decide +kernel)) rfl, qWA_in (List.mem_of_getElem? (i := 63) (by decide +kernel)) rfl, ⟨by decide +kernel, by decide +kernel⟩, by decide +kernel⟩
theorem st_X7_charAt : Cond.static yX7_charAt ∈ qWA := qWA_in (List.mem_of_getElem? (i := 746) (by decide +kernel)) rfl
theorem mw_X7_copyRow : qMw yX7_copyRow cX7_copyRow 3 2 none := ⟨qWA_in (List.mem_of_getElem? (i := 492) (by decide +kernel)) rfl, qWA_in (List.mem_of_getElem? (i := 63) (by decide +kernel)) rfl, ⟨by decide +kernel, by decide +kernel⟩, by decide +kernel⟩
theorem st_X7_copyRow : Cond.static yX7_copyRow ∈ qWA := qWA_in (List.mem_of_getElem? (i := 491) (by decide +kernel)) rfl
theorem mw_X7_fillRow : qMw yX7_fillRow cX7_fillRow 3 2 none := ⟨qWA_in (List.mem_of_getElem? (i := 108) (by decide +kernel)) rfl, qWA_in (List.mem_of_getElem? (i := 63) (by decide +kernel)) rfl, ⟨by decide +kernel, by decide +kernel⟩, by decide +kernel⟩
theorem st_X7_fillRow : Cond.static yX7_fillRow ∈ qWA := qWA_in (List.mem_of_getElem? (i := 107) (by decide +kernel)) rfl
theorem mw_X7_closeGap : qMw yX7_closeGap cX7_closeGap 3 2 none := ⟨qWA_in (List.mem_of_getElem? (i := 517) (by decide +kernel)) rfl, qWA_in (List.mem_of_getElem? (i := 63) (by decide +kernel)) rfl, ⟨by decide +kernel, by decide +kernel⟩, by decide +kernel⟩
theorem st_X7_closeGap : Cond.static yX7_closeGap ∈ qWA := qWA_in (List.mem_of_getElem? (i := 516) (by decide +kernel)) rfl
theorem mw_J5_init_d00df : qMw yJ5_init_d00df cJ5_init_d00df 2 1 none := ⟨qWA_in (List.mem_of_getElem? (i := 1080) (by decide +kernel)) rfl, qWA_in (List.mem_of_getElem? (i := 87) (by decide +kernel)) rfl, ⟨by decide +kernel, by decide +kernel⟩, by decide +kernel⟩
theorem in_J5_init_d00df : Cond.instanceMethod yJ5_init_d00df ∈ qWA := qWA_in (List.mem_of_getElem? (i := 1079) (by decide +kernel)) rfl
theorem mw_J5_length_8abf5 : qMw yJ5_length_8abf5 cJ5_length_8abf5 1 0 (some .int) := ⟨qWA_in (List.mem_of_getElem? (i := 1250) (by decide +kernel)) rfl, qWA_in (List.mem_of_getElem? (i := 87) (by decide +kernel)) rfl, ⟨by decide +kernel, by decide +kernel⟩, by decide +kernel⟩
theorem in_J5_length_8abf5 : Cond.instanceMethod yJ5_length_8abf5 ∈ qWA := qWA_in (List.mem_of_getElem? (i := 1244) (by decide +kernel)) rfl
theorem mw_J5_ensureCapacityInternal_d00df : qMw yJ5_ensureCapacityInternal_d00df cJ5_ensureCapacityInternal_d00df 3 1 none := ⟨qWA_in (List.mem_of_getElem? (i := 1117) (by decide +kernel)) rfl, qWA_in (List.mem_of_getElem? (i := 87) (by decide +kernel)) rfl, ⟨by decide +kernel, by decide +kernel⟩, by decide +kernel⟩
theorem in_J5_ensureCapacityInternal_d00df : Cond.instanceMethod yJ5_ensureCapacityInternal_d00df ∈ qWA := qWA_in (List.mem_of_getElem? (i := 1116) (by decide +kernel)) rfl
theorem mw_J5_newCapacity_0f7a4 : qMw yJ5_newCapacity_0f7a4 cJ5_newCapacity_0f7a4 6 1 (some .int) := ⟨qWA_in (List.mem_of_getElem? (i := 1121) (by decide +kernel)) rfl, qWA_in (List.mem_of_getElem? (i := 87) (by decide +kernel)) rfl, ⟨by decide +kernel, by decide +kernel⟩, by decide +kernel⟩
theorem in_J5_newCapacity_0f7a4 : Cond.instanceMethod yJ5_newCapacity_0f7a4 ∈ qWA := qWA_in (List.mem_of_getElem? (i := 1120) (by decide +kernel)) rfl
theorem mw_J5_append_cf1ce : qMw yJ5_append_cf1ce cJ5_append_cf1ce 3 1 (some (.object "java/lang/AbstractStringBuilder")) := ⟨qWA_in (List.mem_of_getElem? (i := 1109) (by decide +kernel)) rfl, qWA_in (List.mem_of_getElem? (i := 87) (by decide +kernel)) rfl, ⟨by decide +kernel, by decide +kernel⟩, by decide +kernel⟩
theorem in_J5_append_cf1ce : Cond.instanceMethod yJ5_append_cf1ce ∈ qWA := qWA_in (List.mem_of_getElem? (i := 1108) (by decide +kernel)) rfl
theorem mw_J5_append_c97b9 : qMw yJ5_append_c97b9 cJ5_append_c97b9 4 1 (some (.object "java/lang/AbstractStringBuilder")) := ⟨qWA_in (List.mem_of_getElem? (i := 1207) (by decide +kernel)) rfl, qWA_in (List.mem_of_getElem? (i := 87) (by decide +kernel)) rfl, ⟨by decide +kernel, by decide +kernel⟩, by decide +kernel⟩
theorem in_J5_append_c97b9 : Cond.instanceMethod yJ5_append_c97b9 ∈ qWA := qWA_in (List.mem_of_getElem? (i := 1206) (by decide +kernel)) rfl
theorem mw_J5_getValue_6d5f1 : qMw yJ5_getValue_6d5f1 cJ5_getValue_6d5f1 1 0 (some (.array .byte)) := ⟨qWA_in (List.mem_of_getElem? (i := 1242) (by decide +kernel)) rfl, qWA_in (List.mem_of_getElem? (i := 87) (by decide +kernel)) rfl, ⟨by decide +kernel, by decide +kernel⟩, by decide +kernel⟩
theorem in_J5_getValue_6d5f1 : Cond.instanceMethod yJ5_getValue_6d5f1 ∈ qWA := qWA_in (List.mem_of_getElem? (i := 1239) (by decide +kernel)) rfl
theorem mw_J5_isLatin1_aae02 : qMw yJ5_isLatin1_aae02 cJ5_isLatin1_aae02 1 0 (some .boolean) := ⟨qWA_in (List.mem_of_getElem? (i := 1149) (by decide +kernel)) rfl, qWA_in (List.mem_of_getElem? (i := 87) (by decide +kernel)) rfl, ⟨by decide +kernel, by decide +kernel⟩, by decide +kernel⟩
theorem in_J5_isLatin1_aae02 : Cond.instanceMethod yJ5_isLatin1_aae02 ∈ qWA := qWA_in (List.mem_of_getElem? (i := 1146) (by decide +kernel)) rfl
theorem mw_J5_inflateIfNeededFor_a7421 : qMw yJ5_inflateIfNeededFor_a7421 cJ5_inflateIfNeededFor_a7421 2 1 none := ⟨qWA_in (List.mem_of_getElem? (i := 1173) (by decide +kernel)) rfl, qWA_in (List.mem_of_getElem? (i := 87) (by decide +kernel)) rfl, ⟨by decide +kernel, by decide +kernel⟩, by decide +kernel⟩
theorem in_J5_inflateIfNeededFor_a7421 : Cond.instanceMethod yJ5_inflateIfNeededFor_a7421 ∈ qWA := qWA_in (List.mem_of_getElem? (i := 1172) (by decide +kernel)) rfl
theorem mw_J5_putStringAt_47b60 : qMw yJ5_putStringAt_47b60 cJ5_putStringAt_47b60 3 2 none := ⟨qWA_in (List.mem_of_getElem? (i := 1169) (by decide +kernel)) rfl, qWA_in (List.mem_of_getElem? (i := 87) (by decide +kernel)) rfl, ⟨by decide +kernel, by decide +kernel⟩, by decide +kernel⟩
theorem in_J5_putStringAt_47b60 : Cond.instanceMethod yJ5_putStringAt_47b60 ∈ qWA := qWA_in (List.mem_of_getElem? (i := 1168) (by decide +kernel)) rfl
theorem mw_J6_getChars_ba4f3 : qMw yJ6_getChars_ba4f3 cJ6_getChars_ba4f3 7 3 (some .int) := ⟨qWA_in (List.mem_of_getElem? (i := 1213) (by decide +kernel)) rfl, qWA_in (List.mem_of_getElem? (i := 85) (by decide +kernel)) rfl, ⟨by decide +kernel, by decide +kernel⟩, by decide +kernel⟩
theorem st_J6_getChars_ba4f3 : Cond.static yJ6_getChars_ba4f3 ∈ qWA := qWA_in (List.mem_of_getElem? (i := 1212) (by decide +kernel)) rfl
theorem mw_J6_stringSize_0f7a4 : qMw yJ6_stringSize_0f7a4 cJ6_stringSize_0f7a4 4 1 (some .int) := ⟨qWA_in (List.mem_of_getElem? (i := 1210) (by decide +kernel)) rfl, qWA_in (List.mem_of_getElem? (i := 85) (by decide +kernel)) rfl, ⟨by decide +kernel, by decide +kernel⟩, by decide +kernel⟩
theorem st_J6_stringSize_0f7a4 : Cond.static yJ6_stringSize_0f7a4 ∈ qWA := qWA_in (List.mem_of_getElem? (i := 1209) (by decide +kernel)) rfl
theorem mw_J6_bitCount_0f7a4 : qMw yJ6_bitCount_0f7a4 cJ6_bitCount_0f7a4 1 1 (some .int) := ⟨qWA_in (List.mem_of_getElem? (i := 978) (by decide +kernel)) rfl, qWA_in (List.mem_of_getElem? (i := 85) (by decide +kernel)) rfl, ⟨by decide +kernel, by decide +kernel⟩, by decide +kernel⟩
theorem st_J6_bitCount_0f7a4 : Cond.static yJ6_bitCount_0f7a4 ∈ qWA := qWA_in (List.mem_of_getElem? (i := 977) (by decide +kernel)) rfl
theorem mw_J0_init_81219 : qMw yJ0_init_81219 cJ0_init_81219 2 1 none := ⟨qWA_in (List.mem_of_getElem? (i := 1233) (by decide +kernel)) rfl, qWA_in (List.mem_of_getElem? (i := 74) (by decide +kernel)) rfl, ⟨by decide +kernel, by decide +kernel⟩, by decide +kernel⟩
theorem in_J0_init_81219 : Cond.instanceMethod yJ0_init_81219 ∈ qWA := qWA_in (List.mem_of_getElem? (i := 1232) (by decide +kernel)) rfl
theorem mw_J0_length_8abf5 : qMw yJ0_length_8abf5 cJ0_length_8abf5 1 0 (some .int) := ⟨qWA_in (List.mem_of_getElem? (i := 692) (by decide +kernel)) rfl, qWA_in (List.mem_of_getElem? (i := 74) (by decide +kernel)) rfl, ⟨by decide +kernel, by decide +kernel⟩, by decide +kernel⟩
theorem in_J0_length_8abf5 : Cond.instanceMethod yJ0_length_8abf5 ∈ qWA := qWA_in (List.mem_of_getElem? (i := 690) (by decide +kernel)) rfl
theorem se_J0_length_8abf5 : Cond.selects RJ0 yJ0_length_8abf5 yJ0_length_8abf5 ∈ qWA := qWA_in (List.mem_of_getElem? (i := 691) (by decide +kernel)) rfl
theorem mw_J0_charAt_5068e : qMw yJ0_charAt_5068e cJ0_charAt_5068e 2 1 (some .char) := ⟨qWA_in (List.mem_of_getElem? (i := 702) (by decide +kernel)) rfl, qWA_in (List.mem_of_getElem? (i := 74) (by decide +kernel)) rfl, ⟨by decide +kernel, by decide +kernel⟩, by decide +kernel⟩
theorem in_J0_charAt_5068e : Cond.instanceMethod yJ0_charAt_5068e ∈ qWA := qWA_in (List.mem_of_getElem? (i := 700) (by decide +kernel)) rfl
theorem se_J0_charAt_5068e : Cond.selects RJ0 yJ0_charAt_5068e yJ0_charAt_5068e ∈ qWA := qWA_in (List.mem_of_getElem? (i := 701) (by decide +kernel)) rfl
theorem mw_J0_getBytes_840e7 : qMw yJ0_getBytes_840e7 cJ0_getBytes_840e7 4 3 none := ⟨qWA_in (List.mem_of_getElem? (i := 1197) (by decide +kernel)) rfl, qWA_in (List.mem_of_getElem? (i := 74) (by decide +kernel)) rfl, ⟨by decide +kernel, by decide +kernel⟩, by decide +kernel⟩
theorem in_J0_getBytes_840e7 : Cond.instanceMethod yJ0_getBytes_840e7 ∈ qWA := qWA_in (List.mem_of_getElem? (i := 1195) (by decide +kernel)) rfl
theorem se_J0_getBytes_840e7 : Cond.selects RJ0 yJ0_getBytes_840e7 yJ0_getBytes_840e7 ∈ qWA := qWA_in (List.mem_of_getElem? (i := 1196) (by decide +kernel)) rfl
theorem mw_J0_init_db425 : qMw yJ0_init_db425 cJ0_init_db425 5 2 none := ⟨qWA_in (List.mem_of_getElem? (i := 1236) (by decide +kernel)) rfl, qWA_in (List.mem_of_getElem? (i := 74) (by decide +kernel)) rfl, ⟨by decide +kernel, by decide +kernel⟩, by decide +kernel⟩
theorem in_J0_init_db425 : Cond.instanceMethod yJ0_init_db425 ∈ qWA := qWA_in (List.mem_of_getElem? (i := 1235) (by decide +kernel)) rfl
theorem mw_J0_coder_7d493 : qMw yJ0_coder_7d493 cJ0_coder_7d493 1 0 (some .byte) := ⟨qWA_in (List.mem_of_getElem? (i := 696) (by decide +kernel)) rfl, qWA_in (List.mem_of_getElem? (i := 74) (by decide +kernel)) rfl, ⟨by decide +kernel, by decide +kernel⟩, by decide +kernel⟩
theorem in_J0_coder_7d493 : Cond.instanceMethod yJ0_coder_7d493 ∈ qWA := qWA_in (List.mem_of_getElem? (i := 694) (by decide +kernel)) rfl
theorem se_J0_coder_7d493 : Cond.selects RJ0 yJ0_coder_7d493 yJ0_coder_7d493 ∈ qWA := qWA_in (List.mem_of_getElem? (i := 695) (by decide +kernel)) rfl
theorem mw_J0_isLatin1_aae02 : qMw yJ0_isLatin1_aae02 cJ0_isLatin1_aae02 1 0 (some .boolean) := ⟨qWA_in (List.mem_of_getElem? (i := 706) (by decide +kernel)) rfl, qWA_in (List.mem_of_getElem? (i := 74) (by decide +kernel)) rfl, ⟨by decide +kernel, by decide +kernel⟩, by decide +kernel⟩
theorem in_J0_isLatin1_aae02 : Cond.instanceMethod yJ0_isLatin1_aae02 ∈ qWA := qWA_in (List.mem_of_getElem? (i := 704) (by decide +kernel)) rfl
theorem se_J0_isLatin1_aae02 : Cond.selects RJ0 yJ0_isLatin1_aae02 yJ0_isLatin1_aae02 ∈ qWA := qWA_in (List.mem_of_getElem? (i := 705) (by decide +kernel)) rfl
theorem mw_J0_checkIndex_df160 : qMw yJ0_checkIndex_df160 cJ0_checkIndex_df160 2 2 none := ⟨qWA_in (List.mem_of_getElem? (i := 712) (by decide +kernel)) rfl, qWA_in (List.mem_of_getElem? (i := 74) (by decide +kernel)) rfl, ⟨by decide +kernel, by decide +kernel⟩, by decide +kernel⟩
theorem st_J0_checkIndex_df160 : Cond.static yJ0_checkIndex_df160 ∈ qWA := qWA_in (List.mem_of_getElem? (i := 711) (by decide +kernel)) rfl
theorem mw_J4_init_da8c8 : qMw yJ4_init_da8c8 cJ4_init_da8c8 1 0 none := ⟨qWA_in (List.mem_of_getElem? (i := 1077) (by decide +kernel)) rfl, qWA_in (List.mem_of_getElem? (i := 88) (by decide +kernel)) rfl, ⟨by decide +kernel, by decide +kernel⟩, by decide +kernel⟩
theorem in_J4_init_da8c8 : Cond.instanceMethod yJ4_init_da8c8 ∈ qWA := qWA_in (List.mem_of_getElem? (i := 1076) (by decide +kernel)) rfl
theorem mw_J4_append_15ec4 : qMw yJ4_append_15ec4 cJ4_append_15ec4 2 1 (some (.object "java/lang/StringBuilder")) := ⟨qWA_in (List.mem_of_getElem? (i := 1106) (by decide +kernel)) rfl, qWA_in (List.mem_of_getElem? (i := 88) (by decide +kernel)) rfl, ⟨by decide +kernel, by decide +kernel⟩, by decide +kernel⟩
theorem in_J4_append_15ec4 : Cond.instanceMethod yJ4_append_15ec4 ∈ qWA := qWA_in (List.mem_of_getElem? (i := 1104) (by decide +kernel)) rfl
theorem se_J4_append_15ec4 : Cond.selects RJ4 yJ4_append_15ec4 yJ4_append_15ec4 ∈ qWA := qWA_in (List.mem_of_getElem? (i := 1105) (by decide +kernel)) rfl
theorem mw_J4_append_bf812 : qMw yJ4_append_bf812 cJ4_append_bf812 2 1 (some (.object "java/lang/StringBuilder")) := ⟨qWA_in (List.mem_of_getElem? (i := 1204) (by decide +kernel)) rfl, qWA_in (List.mem_of_getElem? (i := 88) (by decide +kernel)) rfl, ⟨by decide +kernel, by decide +kernel⟩, by decide +kernel⟩
theorem in_J4_append_bf812 : Cond.instanceMethod yJ4_append_bf812 ∈ qWA := qWA_in (List.mem_of_getElem? (i := 1202) (by decide +kernel)) rfl
theorem se_J4_append_bf812 : Cond.selects RJ4 yJ4_append_bf812 yJ4_append_bf812 ∈ qWA := qWA_in (List.mem_of_getElem? (i := 1203) (by decide +kernel)) rfl
theorem mw_J4_toString_0e30d : qMw yJ4_toString_0e30d cJ4_toString_0e30d 1 0 (some (.object "java/lang/String")) := ⟨qWA_in (List.mem_of_getElem? (i := 1229) (by decide +kernel)) rfl, qWA_in (List.mem_of_getElem? (i := 88) (by decide +kernel)) rfl, ⟨by decide +kernel, by decide +kernel⟩, by decide +kernel⟩
theorem in_J4_toString_0e30d : Cond.instanceMethod yJ4_toString_0e30d ∈ qWA := qWA_in (List.mem_of_getElem? (i := 1227) (by decide +kernel)) rfl
theorem se_J4_toString_0e30d : Cond.selects RJ4 yJ4_toString_0e30d yJ4_toString_0e30d ∈ qWA := qWA_in (List.mem_of_getElem? (i := 1228) (by decide +kernel)) rfl
theorem mw_J4_length_8abf5 : qMw yJ4_length_8abf5 cJ4_length_8abf5 1 0 (some .int) := ⟨qWA_in (List.mem_of_getElem? (i := 1248) (by decide +kernel)) rfl, qWA_in (List.mem_of_getElem? (i := 88) (by decide +kernel)) rfl, ⟨by decide +kernel, by decide +kernel⟩, by decide +kernel⟩
theorem in_J4_length_8abf5 : Cond.instanceMethod yJ4_length_8abf5 ∈ qWA := qWA_in (List.mem_of_getElem? (i := 1247) (by decide +kernel)) rfl
theorem mw_J1_charAt_3b067 : qMw yJ1_charAt_3b067 cJ1_charAt_3b067 2 2 (some .char) := ⟨qWA_in (List.mem_of_getElem? (i := 709) (by decide +kernel)) rfl, qWA_in (List.mem_of_getElem? (i := 79) (by decide +kernel)) rfl, ⟨by decide +kernel, by decide +kernel⟩, by decide +kernel⟩
theorem st_J1_charAt_3b067 : Cond.static yJ1_charAt_3b067 ∈ qWA := qWA_in (List.mem_of_getElem? (i := 708) (by decide +kernel)) rfl
theorem mw_J7_copyOf_9075b : qMw yJ7_copyOf_9075b cJ7_copyOf_9075b 3 2 (some (.array .byte)) := ⟨qWA_in (List.mem_of_getElem? (i := 1133) (by decide +kernel)) rfl, qWA_in (List.mem_of_getElem? (i := 90) (by decide +kernel)) rfl, ⟨by decide +kernel, by decide +kernel⟩, by decide +kernel⟩
theorem st_J7_copyOf_9075b : Cond.static yJ7_copyOf_9075b ∈ qWA := qWA_in (List.mem_of_getElem? (i := 1132) (by decide +kernel)) rfl
theorem mw_J7_checkLength_df160 : qMw yJ7_checkLength_df160 cJ7_checkLength_df160 2 2 none := ⟨qWA_in (List.mem_of_getElem? (i := 1260) (by decide +kernel)) rfl, qWA_in (List.mem_of_getElem? (i := 90) (by decide +kernel)) rfl, ⟨by decide +kernel, by decide +kernel⟩, by decide +kernel⟩
theorem st_J7_checkLength_df160 : Cond.static yJ7_checkLength_df160 ∈ qWA := qWA_in (List.mem_of_getElem? (i := 1259) (by decide +kernel)) rfl
theorem mw_J7_copyOfRange_39247 : qMw yJ7_copyOfRange_39247 cJ7_copyOfRange_39247 3 3 (some (.array .byte)) := ⟨qWA_in (List.mem_of_getElem? (i := 1254) (by decide +kernel)) rfl, qWA_in (List.mem_of_getElem? (i := 90) (by decide +kernel)) rfl, ⟨by decide +kernel, by decide +kernel⟩, by decide +kernel⟩
theorem st_J7_copyOfRange_39247 : Cond.static yJ7_copyOfRange_39247 ∈ qWA := qWA_in (List.mem_of_getElem? (i := 1253) (by decide +kernel)) rfl
theorem mw_J7_copyOfRangeByte_39247 : qMw yJ7_copyOfRangeByte_39247 cJ7_copyOfRangeByte_39247 5 3 (some (.array .byte)) := ⟨qWA_in (List.mem_of_getElem? (i := 1257) (by decide +kernel)) rfl, qWA_in (List.mem_of_getElem? (i := 90) (by decide +kernel)) rfl, ⟨by decide +kernel, by decide +kernel⟩, by decide +kernel⟩
theorem st_J7_copyOfRangeByte_39247 : Cond.static yJ7_copyOfRangeByte_39247 ∈ qWA := qWA_in (List.mem_of_getElem? (i := 1256) (by decide +kernel)) rfl
theorem mw_J8_newLength_cabcc : qMw yJ8_newLength_cabcc cJ8_newLength_cabcc 4 3 (some .int) := ⟨qWA_in (List.mem_of_getElem? (i := 1124) (by decide +kernel)) rfl, qWA_in (List.mem_of_getElem? (i := 89) (by decide +kernel)) rfl, ⟨by decide +kernel, by decide +kernel⟩, by decide +kernel⟩
theorem st_J8_newLength_cabcc : Cond.static yJ8_newLength_cabcc ∈ qWA := qWA_in (List.mem_of_getElem? (i := 1123) (by decide +kernel)) rfl
theorem mw_J3_checkIndex_8e157 : qMw yJ3_checkIndex_8e157 cJ3_checkIndex_8e157 3 3 (some .int) := ⟨qWA_in (List.mem_of_getElem? (i := 717) (by decide +kernel)) rfl, qWA_in (List.mem_of_getElem? (i := 80) (by decide +kernel)) rfl, ⟨by decide +kernel, by decide +kernel⟩, by decide +kernel⟩
theorem st_J3_checkIndex_8e157 : Cond.static yJ3_checkIndex_8e157 ∈ qWA := qWA_in (List.mem_of_getElem? (i := 716) (by decide +kernel)) rfl
theorem mw_L_cell : qMw yL_cell cL_cell 3 2 (some .int) := ⟨qWA_in (List.mem_of_getElem? (i := 304) (by decide +kernel)) rfl, qWA_in (List.mem_of_getElem? (i := 62) (by decide +kernel)) rfl, ⟨by decide +kernel, by decide +kernel⟩, by decide +kernel⟩
theorem st_L_cell : Cond.static yL_cell ∈ qWA := qWA_in (List.mem_of_getElem? (i := 303) (by decide +kernel)) rfl
theorem mw_L_pick : qMw yL_pick cL_pick 3 3 (some .int) := ⟨qWA_in (List.mem_of_getElem? (i := 301) (by decide +kernel)) rfl, qWA_in (List.mem_of_getElem? (i := 62) (by decide +kernel)) rfl, ⟨by decide +kernel, by decide +kernel⟩, by decide +kernel⟩
theorem st_L_pick : Cond.static yL_pick ∈ qWA := qWA_in (List.mem_of_getElem? (i := 300) (by decide +kernel)) rfl
theorem mw_L_told : qMw yL_told cL_told 1 1 (some .int) := ⟨qWA_in (List.mem_of_getElem? (i := 557) (by decide +kernel)) rfl, qWA_in (List.mem_of_getElem? (i := 62) (by decide +kernel)) rfl, ⟨by decide +kernel, by decide +kernel⟩, by decide +kernel⟩
theorem st_L_told : Cond.static yL_told ∈ qWA := qWA_in (List.mem_of_getElem? (i := 556) (by decide +kernel)) rfl
theorem mw_L_plain : qMw yL_plain cL_plain 6 6 (some .int) := ⟨qWA_in (List.mem_of_getElem? (i := 398) (by decide +kernel)) rfl, qWA_in (List.mem_of_getElem? (i := 62) (by decide +kernel)) rfl, ⟨by decide +kernel, by decide +kernel⟩, by decide +kernel⟩
theorem st_L_plain : Cond.static yL_plain ∈ qWA := qWA_in (List.mem_of_getElem? (i := 397) (by decide +kernel)) rfl
theorem mw_L_deed : qMwH yL_deed cL_deed 7 6 (some .int) [(0, 11, 12, 57), (0, 11, 18, 59), (0, 11, 24, 61), (0, 11, 30, 63)] := ⟨qWA_in (List.mem_of_getElem? (i := 312) (by decide +kernel)) rfl, qWA_in (List.mem_of_getElem? (i := 62) (by decide +kernel)) rfl, ⟨by decide +kernel, by decide +kernel⟩, by decide +kernel⟩
theorem st_L_deed : Cond.static yL_deed ∈ qWA := qWA_in (List.mem_of_getElem? (i := 311) (by decide +kernel)) rfl
theorem mw_L_asked : qMw yL_asked cL_asked 4 4 (some .int) := ⟨qWA_in (List.mem_of_getElem? (i := 828) (by decide +kernel)) rfl, qWA_in (List.mem_of_getElem? (i := 62) (by decide +kernel)) rfl, ⟨by decide +kernel, by decide +kernel⟩, by decide +kernel⟩
theorem st_L_asked : Cond.static yL_asked ∈ qWA := qWA_in (List.mem_of_getElem? (i := 827) (by decide +kernel)) rfl
theorem mw_L_ask : qMwH yL_ask cL_ask 5 4 (some .int) [(0, 7, 8, 57), (0, 7, 14, 59), (0, 7, 20, 118)] := ⟨qWA_in (List.mem_of_getElem? (i := 824) (by decide +kernel)) rfl, qWA_in (List.mem_of_getElem? (i := 62) (by decide +kernel)) rfl, ⟨by decide +kernel, by decide +kernel⟩, by decide +kernel⟩
theorem st_L_ask : Cond.static yL_ask ∈ qWA := qWA_in (List.mem_of_getElem? (i := 823) (by decide +kernel)) rfl
theorem mw_L_lay : qMw yL_lay cL_lay 5 2 none := ⟨qWA_in (List.mem_of_getElem? (i := 309) (by decide +kernel)) rfl, qWA_in (List.mem_of_getElem? (i := 62) (by decide +kernel)) rfl, ⟨by decide +kernel, by decide +kernel⟩, by decide +kernel⟩
theorem st_L_lay : Cond.static yL_lay ∈ qWA := qWA_in (List.mem_of_getElem? (i := 308) (by decide +kernel)) rfl
theorem mw_L_any : qMw yL_any cL_any 5 3 (some .int) := ⟨qWA_in (List.mem_of_getElem? (i := 797) (by decide +kernel)) rfl, qWA_in (List.mem_of_getElem? (i := 62) (by decide +kernel)) rfl, ⟨by decide +kernel, by decide +kernel⟩, by decide +kernel⟩
theorem st_L_any : Cond.static yL_any ∈ qWA := qWA_in (List.mem_of_getElem? (i := 796) (by decide +kernel)) rfl
theorem mw_L_isBehind : qMw yL_isBehind cL_isBehind 4 3 (some .boolean) := ⟨qWA_in (List.mem_of_getElem? (i := 966) (by decide +kernel)) rfl, qWA_in (List.mem_of_getElem? (i := 62) (by decide +kernel)) rfl, ⟨by decide +kernel, by decide +kernel⟩, by decide +kernel⟩
theorem st_L_isBehind : Cond.static yL_isBehind ∈ qWA := qWA_in (List.mem_of_getElem? (i := 965) (by decide +kernel)) rfl
theorem mw_L_soonest : qMw yL_soonest cL_soonest 5 3 (some .int) := ⟨qWA_in (List.mem_of_getElem? (i := 991) (by decide +kernel)) rfl, qWA_in (List.mem_of_getElem? (i := 62) (by decide +kernel)) rfl, ⟨by decide +kernel, by decide +kernel⟩, by decide +kernel⟩
theorem st_L_soonest : Cond.static yL_soonest ∈ qWA := qWA_in (List.mem_of_getElem? (i := 990) (by decide +kernel)) rfl
theorem mw_L_ordered : qMw yL_ordered cL_ordered 7 1 (some (.array .int)) := ⟨qWA_in (List.mem_of_getElem? (i := 814) (by decide +kernel)) rfl, qWA_in (List.mem_of_getElem? (i := 62) (by decide +kernel)) rfl, ⟨by decide +kernel, by decide +kernel⟩, by decide +kernel⟩
theorem st_L_ordered : Cond.static yL_ordered ∈ qWA := qWA_in (List.mem_of_getElem? (i := 813) (by decide +kernel)) rfl
theorem mw_L_isFree : qMw yL_isFree cL_isFree 5 3 (some .boolean) := ⟨qWA_in (List.mem_of_getElem? (i := 817) (by decide +kernel)) rfl, qWA_in (List.mem_of_getElem? (i := 62) (by decide +kernel)) rfl, ⟨by decide +kernel, by decide +kernel⟩, by decide +kernel⟩
theorem st_L_isFree : Cond.static yL_isFree ∈ qWA := qWA_in (List.mem_of_getElem? (i := 816) (by decide +kernel)) rfl
theorem mw_L_last : qMw yL_last cL_last 4 2 (some .int) := ⟨qWA_in (List.mem_of_getElem? (i := 800) (by decide +kernel)) rfl, qWA_in (List.mem_of_getElem? (i := 62) (by decide +kernel)) rfl, ⟨by decide +kernel, by decide +kernel⟩, by decide +kernel⟩
theorem st_L_last : Cond.static yL_last ∈ qWA := qWA_in (List.mem_of_getElem? (i := 799) (by decide +kernel)) rfl
theorem mw_L_areDependenciesRight : qMw yL_areDependenciesRight cL_areDependenciesRight 9 1 (some .boolean) := ⟨qWA_in (List.mem_of_getElem? (i := 811) (by decide +kernel)) rfl, qWA_in (List.mem_of_getElem? (i := 62) (by decide +kernel)) rfl, ⟨by decide +kernel, by decide +kernel⟩, by decide +kernel⟩
theorem st_L_areDependenciesRight : Cond.static yL_areDependenciesRight ∈ qWA := qWA_in (List.mem_of_getElem? (i := 810) (by decide +kernel)) rfl
theorem mw_L_earliest : qMw yL_earliest cL_earliest 4 1 (some (.array .int)) := ⟨qWA_in (List.mem_of_getElem? (i := 988) (by decide +kernel)) rfl, qWA_in (List.mem_of_getElem? (i := 62) (by decide +kernel)) rfl, ⟨by decide +kernel, by decide +kernel⟩, by decide +kernel⟩
theorem st_L_earliest : Cond.static yL_earliest ∈ qWA := qWA_in (List.mem_of_getElem? (i := 987) (by decide +kernel)) rfl
theorem mw_L_latest : qMw yL_latest cL_latest 8 2 (some (.array .int)) := ⟨qWA_in (List.mem_of_getElem? (i := 998) (by decide +kernel)) rfl, qWA_in (List.mem_of_getElem? (i := 62) (by decide +kernel)) rfl, ⟨by decide +kernel, by decide +kernel⟩, by decide +kernel⟩
theorem st_L_latest : Cond.static yL_latest ∈ qWA := qWA_in (List.mem_of_getElem? (i := 997) (by decide +kernel)) rfl
theorem mw_L_areStartsRight : qMw yL_areStartsRight cL_areStartsRight 14 3 (some .boolean) := ⟨qWA_in (List.mem_of_getElem? (i := 1002) (by decide +kernel)) rfl, qWA_in (List.mem_of_getElem? (i := 62) (by decide +kernel)) rfl, ⟨by decide +kernel, by decide +kernel⟩, by decide +kernel⟩
theorem st_L_areStartsRight : Cond.static yL_areStartsRight ∈ qWA := qWA_in (List.mem_of_getElem? (i := 1001) (by decide +kernel)) rfl
theorem mw_L_levelled : qMw yL_levelled cL_levelled 10 3 (some (.array .int)) := ⟨qWA_in (List.mem_of_getElem? (i := 1048) (by decide +kernel)) rfl, qWA_in (List.mem_of_getElem? (i := 62) (by decide +kernel)) rfl, ⟨by decide +kernel, by decide +kernel⟩, by decide +kernel⟩
theorem st_L_levelled : Cond.static yL_levelled ∈ qWA := qWA_in (List.mem_of_getElem? (i := 1047) (by decide +kernel)) rfl
theorem mw_L_fits : qMw yL_fits cL_fits 6 4 (some .boolean) := ⟨qWA_in (List.mem_of_getElem? (i := 1051) (by decide +kernel)) rfl, qWA_in (List.mem_of_getElem? (i := 62) (by decide +kernel)) rfl, ⟨by decide +kernel, by decide +kernel⟩, by decide +kernel⟩
theorem st_L_fits : Cond.static yL_fits ∈ qWA := qWA_in (List.mem_of_getElem? (i := 1050) (by decide +kernel)) rfl
theorem mw_L_areLevelsRight : qMw yL_areLevelsRight cL_areLevelsRight 13 4 (some .boolean) := ⟨qWA_in (List.mem_of_getElem? (i := 1066) (by decide +kernel)) rfl, qWA_in (List.mem_of_getElem? (i := 62) (by decide +kernel)) rfl, ⟨by decide +kernel, by decide +kernel⟩, by decide +kernel⟩
theorem st_L_areLevelsRight : Cond.static yL_areLevelsRight ∈ qWA := qWA_in (List.mem_of_getElem? (i := 1065) (by decide +kernel)) rfl
theorem mw_L_isLine : qMw yL_isLine cL_isLine 5 3 (some .boolean) := ⟨qWA_in (List.mem_of_getElem? (i := 1330) (by decide +kernel)) rfl, qWA_in (List.mem_of_getElem? (i := 62) (by decide +kernel)) rfl, ⟨by decide +kernel, by decide +kernel⟩, by decide +kernel⟩
theorem st_L_isLine : Cond.static yL_isLine ∈ qWA := qWA_in (List.mem_of_getElem? (i := 1329) (by decide +kernel)) rfl
theorem mw_L_areTasksTold : qMw yL_areTasksTold cL_areTasksTold 8 2 (some .boolean) := ⟨qWA_in (List.mem_of_getElem? (i := 1361) (by decide +kernel)) rfl, qWA_in (List.mem_of_getElem? (i := 62) (by decide +kernel)) rfl, ⟨by decide +kernel, by decide +kernel⟩, by decide +kernel⟩
theorem st_L_areTasksTold : Cond.static yL_areTasksTold ∈ qWA := qWA_in (List.mem_of_getElem? (i := 1360) (by decide +kernel)) rfl
theorem mu_J5_isLatin1_aae02 : qMu yJ5_isLatin1_aae02 yJ5_isLatin1_aae02 cJ5_isLatin1_aae02 1 0 (some .boolean) := ⟨qWA_in (List.mem_of_getElem? (i := 1149) (by decide +kernel)) rfl, qWA_in (List.mem_of_getElem? (i := 87) (by decide +kernel)) rfl, ⟨by decide +kernel, by decide +kernel⟩, by decide +kernel, qWA_in (List.mem_of_getElem? (i := 1147) (by decide +kernel)) rfl, ⟨qWA_in (List.mem_of_getElem? (i := 1146) (by decide +kernel)) rfl, cJ5_isLatin1_aae02, 1, (some .boolean), qWA_in (List.mem_of_getElem? (i := 1149) (by decide +kernel)) rfl⟩, qWA_in (List.mem_of_getElem? (i := 1148) (by decide +kernel)) rfl, qWA_in (List.mem_of_getElem? (i := 1146) (by decide +kernel)) rfl⟩
theorem mu_J5_getValue_6d5f1 : qMu yJ5_getValue_6d5f1 yJ5_getValue_6d5f1 cJ5_getValue_6d5f1 1 0 (some (.array .byte)) := ⟨qWA_in (List.mem_of_getElem? (i := 1242) (by decide +kernel)) rfl, qWA_in (List.mem_of_getElem? (i := 87) (by decide +kernel)) rfl, ⟨by decide +kernel, by decide +kernel⟩, by decide +kernel, qWA_in (List.mem_of_getElem? (i := 1240) (by decide +kernel)) rfl, ⟨qWA_in (List.mem_of_getElem? (i := 1239) (by decide +kernel)) rfl, cJ5_getValue_6d5f1, 1, (some (.array .byte)), qWA_in (List.mem_of_getElem? (i := 1242) (by decide +kernel)) rfl⟩, qWA_in (List.mem_of_getElem? (i := 1241) (by decide +kernel)) rfl, qWA_in (List.mem_of_getElem? (i := 1239) (by decide +kernel)) rfl⟩
theorem mu_J5_ensureCapacityInternal_d00df : qMu yJ5_ensureCapacityInternal_d00df yJ5_ensureCapacityInternal_d00df cJ5_ensureCapacityInternal_d00df 3 1 none := ⟨qWA_in (List.mem_of_getElem? (i := 1117) (by decide +kernel)) rfl, qWA_in (List.mem_of_getElem? (i := 87) (by decide +kernel)) rfl, ⟨by decide +kernel, by decide +kernel⟩, by decide +kernel, qWA_in (List.mem_of_getElem? (i := 1382) (by decide +kernel)) rfl, ⟨qWA_in (List.mem_of_getElem? (i := 1116) (by decide +kernel)) rfl, cJ5_ensureCapacityInternal_d00df, 3, none, qWA_in (List.mem_of_getElem? (i := 1117) (by decide +kernel)) rfl⟩, qWA_in (List.mem_of_getElem? (i := 1424) (by decide +kernel)) rfl, qWA_in (List.mem_of_getElem? (i := 1116) (by decide +kernel)) rfl⟩
theorem mu_J5_newCapacity_0f7a4 : qMu yJ5_newCapacity_0f7a4 yJ5_newCapacity_0f7a4 cJ5_newCapacity_0f7a4 6 1 (some .int) := ⟨qWA_in (List.mem_of_getElem? (i := 1121) (by decide +kernel)) rfl, qWA_in (List.mem_of_getElem? (i := 87) (by decide +kernel)) rfl, ⟨by decide +kernel, by decide +kernel⟩, by decide +kernel, qWA_in (List.mem_of_getElem? (i := 1383) (by decide +kernel)) rfl, ⟨qWA_in (List.mem_of_getElem? (i := 1120) (by decide +kernel)) rfl, cJ5_newCapacity_0f7a4, 6, (some .int), qWA_in (List.mem_of_getElem? (i := 1121) (by decide +kernel)) rfl⟩, qWA_in (List.mem_of_getElem? (i := 1425) (by decide +kernel)) rfl, qWA_in (List.mem_of_getElem? (i := 1120) (by decide +kernel)) rfl⟩
theorem mu_J5_putStringAt_47b60 : qMu yJ5_putStringAt_47b60 yJ5_putStringAt_47b60 cJ5_putStringAt_47b60 3 2 none := ⟨qWA_in (List.mem_of_getElem? (i := 1169) (by decide +kernel)) rfl, qWA_in (List.mem_of_getElem? (i := 87) (by decide +kernel)) rfl, ⟨by decide +kernel, by decide +kernel⟩, by decide +kernel, qWA_in (List.mem_of_getElem? (i := 1384) (by decide +kernel)) rfl, ⟨qWA_in (List.mem_of_getElem? (i := 1168) (by decide +kernel)) rfl, cJ5_putStringAt_47b60, 3, none, qWA_in (List.mem_of_getElem? (i := 1169) (by decide +kernel)) rfl⟩, qWA_in (List.mem_of_getElem? (i := 1426) (by decide +kernel)) rfl, qWA_in (List.mem_of_getElem? (i := 1168) (by decide +kernel)) rfl⟩
theorem mu_J5_inflateIfNeededFor_a7421 : qMu yJ5_inflateIfNeededFor_a7421 yJ5_inflateIfNeededFor_a7421 cJ5_inflateIfNeededFor_a7421 2 1 none := ⟨qWA_in (List.mem_of_getElem? (i := 1173) (by decide +kernel)) rfl, qWA_in (List.mem_of_getElem? (i := 87) (by decide +kernel)) rfl, ⟨by decide +kernel, by decide +kernel⟩, by decide +kernel, qWA_in (List.mem_of_getElem? (i := 1385) (by decide +kernel)) rfl, ⟨qWA_in (List.mem_of_getElem? (i := 1172) (by decide +kernel)) rfl, cJ5_inflateIfNeededFor_a7421, 2, none, qWA_in (List.mem_of_getElem? (i := 1173) (by decide +kernel)) rfl⟩, qWA_in (List.mem_of_getElem? (i := 1427) (by decide +kernel)) rfl, qWA_in (List.mem_of_getElem? (i := 1172) (by decide +kernel)) rfl⟩
theorem mu_J5_length_8abf5 : qMu yJ5_length_8abf5 yJ4_length_8abf5 cJ4_length_8abf5 1 0 (some .int) := ⟨qWA_in (List.mem_of_getElem? (i := 1248) (by decide +kernel)) rfl, qWA_in (List.mem_of_getElem? (i := 88) (by decide +kernel)) rfl, ⟨by decide +kernel, by decide +kernel⟩, by decide +kernel, qWA_in (List.mem_of_getElem? (i := 1245) (by decide +kernel)) rfl, ⟨qWA_in (List.mem_of_getElem? (i := 1244) (by decide +kernel)) rfl, cJ5_length_8abf5, 1, (some .int), qWA_in (List.mem_of_getElem? (i := 1250) (by decide +kernel)) rfl⟩, qWA_in (List.mem_of_getElem? (i := 1246) (by decide +kernel)) rfl, qWA_in (List.mem_of_getElem? (i := 1247) (by decide +kernel)) rfl⟩
theorem pp_J5_append_cf1ce : Cond.sameMethod yJ5_append_cf1ce.cls yJ5_append_cf1ce.cls yJ5_append_cf1ce.name yJ5_append_cf1ce.desc ∈ qWA ∧ Cond.superclass RJ4 yJ5_append_cf1ce.cls ∈ qWA ∧ yJ5_append_cf1ce.name ≠ "<init>" ∧ Cond.instantiable RJ4 4 ∈ qWA := ⟨qWA_in (List.mem_of_getElem? (i := 1380) (by decide +kernel)) rfl, qWA_in (List.mem_of_getElem? (i := 1102) (by decide +kernel)) rfl, by decide +kernel, qWA_in (List.mem_of_getElem? (i := 1074) (by decide +kernel)) rfl⟩
theorem pp_J5_append_c97b9 : Cond.sameMethod yJ5_append_c97b9.cls yJ5_append_c97b9.cls yJ5_append_c97b9.name yJ5_append_c97b9.desc ∈ qWA ∧ Cond.superclass RJ4 yJ5_append_c97b9.cls ∈ qWA ∧ yJ5_append_c97b9.name ≠ "<init>" ∧ Cond.instantiable RJ4 4 ∈ qWA := ⟨qWA_in (List.mem_of_getElem? (i := 1387) (by decide +kernel)) rfl, qWA_in (List.mem_of_getElem? (i := 1102) (by decide +kernel)) rfl, by decide +kernel, qWA_in (List.mem_of_getElem? (i := 1074) (by decide +kernel)) rfl⟩
theorem pp_J5_length_8abf5 : Cond.sameMethod yJ5_length_8abf5.cls yJ5_length_8abf5.cls yJ5_length_8abf5.name yJ5_length_8abf5.desc ∈ qWA ∧ Cond.superclass RJ4 yJ5_length_8abf5.cls ∈ qWA ∧ yJ5_length_8abf5.name ≠ "<init>" ∧ Cond.instantiable RJ4 4 ∈ qWA := ⟨qWA_in (List.mem_of_getElem? (i := 1245) (by decide +kernel)) rfl, qWA_in (List.mem_of_getElem? (i := 1102) (by decide +kernel)) rfl, by decide +kernel, qWA_in (List.mem_of_getElem? (i := 1074) (by decide +kernel)) rfl⟩
theorem zo_obj : Cond.instanceMethod objectInit ∈ qWA ∧ Cond.code objectInit ⟨#[0xb1]⟩ 1 none ∈ qWA := ⟨qWA_in (List.mem_of_getElem? (i := 98) (by decide +kernel)) rfl, qWA_in (List.mem_of_getElem? (i := 99) (by decide +kernel)) rfl⟩
theorem nw_L_224 : Cond.classLink RL 224 RJ4 ∈ qWA ∧ Cond.instantiable RJ4 4 ∈ qWA ∧ Cond.initialized RJ4 ∈ qWA := ⟨qWA_in (List.mem_of_getElem? (i := 1073) (by decide +kernel)) rfl, qWA_in (List.mem_of_getElem? (i := 1074) (by decide +kernel)) rfl, qWA_in (List.mem_of_getElem? (i := 88) (by decide +kernel)) rfl⟩
theorem nw_J4_18 : Cond.classLink RJ4 18 RJ0 ∈ qWA ∧ Cond.instantiable RJ0 4 ∈ qWA ∧ Cond.initialized RJ0 ∈ qWA := ⟨qWA_in (List.mem_of_getElem? (i := 1230) (by decide +kernel)) rfl, qWA_in (List.mem_of_getElem? (i := 387) (by decide +kernel)) rfl, qWA_in (List.mem_of_getElem? (i := 74) (by decide +kernel)) rfl⟩
theorem cb_J7_311 : Cond.classLink RJ7 311 "[B" ∈ qWA := qWA_in (List.mem_of_getElem? (i := 1140) (by decide +kernel)) rfl
theorem nw_J7_45 : Cond.classLink RJ7 45 RJ4 ∈ qWA ∧ Cond.instantiable RJ4 4 ∈ qWA ∧ Cond.initialized RJ4 ∈ qWA := ⟨qWA_in (List.mem_of_getElem? (i := 1262) (by decide +kernel)) rfl, qWA_in (List.mem_of_getElem? (i := 1074) (by decide +kernel)) rfl, qWA_in (List.mem_of_getElem? (i := 88) (by decide +kernel)) rfl⟩
theorem kc_L_221 : Cond.constant RL 221 2147483647 ∈ qWA := qWA_in (List.mem_of_getElem? (i := 1071) (by decide +kernel)) rfl
theorem kc_L_7 : Cond.constant RL 7 69069 ∈ qWA := qWA_in (List.mem_of_getElem? (i := 305) (by decide +kernel)) rfl
theorem kc_L_8 : Cond.constant RL 8 1103515245 ∈ qWA := qWA_in (List.mem_of_getElem? (i := 306) (by decide +kernel)) rfl
theorem kc_J5_39 : Cond.constant RJ5 39 2147483647 ∈ qWA := qWA_in (List.mem_of_getElem? (i := 1130) (by decide +kernel)) rfl
theorem kc_J6_265 : Cond.constant RJ6 265 1431655765 ∈ qWA := qWA_in (List.mem_of_getElem? (i := 979) (by decide +kernel)) rfl
theorem kc_J6_266 : Cond.constant RJ6 266 858993459 ∈ qWA := qWA_in (List.mem_of_getElem? (i := 980) (by decide +kernel)) rfl
theorem kc_J6_267 : Cond.constant RJ6 267 252645135 ∈ qWA := qWA_in (List.mem_of_getElem? (i := 981) (by decide +kernel)) rfl
theorem kc_J8_200 : Cond.constant RJ8 200 2147483639 ∈ qWA := qWA_in (List.mem_of_getElem? (i := 1126) (by decide +kernel)) rfl
theorem fl_X2_11 : qFl RX2 11 RX2 TX2 0 := Or.inl (qWA_in (List.mem_of_getElem? (i := 163) (by decide +kernel)) rfl)
theorem fl_X2_18 : qFl RX2 18 RX2 TX2 2 := Or.inl (qWA_in (List.mem_of_getElem? (i := 165) (by decide +kernel)) rfl)
theorem fl_X2_30 : qFl RX2 30 RX2 TX2 1 := Or.inl (qWA_in (List.mem_of_getElem? (i := 164) (by decide +kernel)) rfl)
theorem fl_X3_15 : qFl RX3 15 RX3 TX3 1 := Or.inl (qWA_in (List.mem_of_getElem? (i := 253) (by decide +kernel)) rfl)
theorem fl_X3_9 : qFl RX3 9 RX3 TX3 0 := Or.inl (qWA_in (List.mem_of_getElem? (i := 251) (by decide +kernel)) rfl)
theorem fl_X4_120 : qFl RX4 120 RX4 TX4 8 := Or.inl (qWA_in (List.mem_of_getElem? (i := 195) (by decide +kernel)) rfl)
theorem fl_X4_15 : qFl RX4 15 RX4 TX4 1 := Or.inl (qWA_in (List.mem_of_getElem? (i := 181) (by decide +kernel)) rfl)
theorem fl_X4_18 : qFl RX4 18 RX4 TX4 2 := Or.inl (qWA_in (List.mem_of_getElem? (i := 183) (by decide +kernel)) rfl)
theorem fl_X4_21 : qFl RX4 21 RX4 TX4 3 := Or.inl (qWA_in (List.mem_of_getElem? (i := 185) (by decide +kernel)) rfl)
theorem fl_X4_24 : qFl RX4 24 RX4 TX4 4 := Or.inl (qWA_in (List.mem_of_getElem? (i := 187) (by decide +kernel)) rfl)
theorem fl_X4_27 : qFl RX4 27 RX4 TX4 5 := Or.inl (qWA_in (List.mem_of_getElem? (i := 189) (by decide +kernel)) rfl)
theorem fl_X4_30 : qFl RX4 30 RX4 TX4 6 := Or.inl (qWA_in (List.mem_of_getElem? (i := 191) (by decide +kernel)) rfl)
theorem fl_X4_88 : qFl RX4 88 RX4 TX4 7 := Or.inl (qWA_in (List.mem_of_getElem? (i := 192) (by decide +kernel)) rfl)
theorem fl_X4_9 : qFl RX4 9 RX4 TX4 0 := Or.inl (qWA_in (List.mem_of_getElem? (i := 179) (by decide +kernel)) rfl)
theorem fl_X5_15 : qFl RX5 15 RX5 TX5 1 := Or.inl (qWA_in (List.mem_of_getElem? (i := 112) (by decide +kernel)) rfl)
theorem fl_X5_18 : qFl RX5 18 RX5 TX5 2 := Or.inl (qWA_in (List.mem_of_getElem? (i := 115) (by decide +kernel)) rfl)
theorem fl_X5_21 : qFl RX5 21 RX5 TX5 3 := Or.inl (qWA_in (List.mem_of_getElem? (i := 118) (by decide +kernel)) rfl)
theorem fl_X5_24 : qFl RX5 24 RX5 TX5 4 := Or.inl (qWA_in (List.mem_of_getElem? (i := 121) (by decide +kernel)) rfl)
theorem fl_X5_27 : qFl RX5 27 RX5 TX5 5 := Or.inl (qWA_in (List.mem_of_getElem? (i := 124) (by decide +kernel)) rfl)
theorem fl_X5_30 : qFl RX5 30 RX5 TX5 6 := Or.inl (qWA_in (List.mem_of_getElem? (i := 126) (by decide +kernel)) rfl)
theorem fl_X5_41 : qFl RX5 41 RX5 TX5 7 := Or.inl (qWA_in (List.mem_of_getElem? (i := 129) (by decide +kernel)) rfl)
theorem fl_X5_45 : qFl RX5 45 RX5 TX5 8 := Or.inl (qWA_in (List.mem_of_getElem? (i := 132) (by decide +kernel)) rfl)
theorem fl_X5_9 : qFl RX5 9 RX5 TX5 0 := Or.inl (qWA_in (List.mem_of_getElem? (i := 109) (by decide +kernel)) rfl)
theorem fl_X6_17 : qFl RX6 17 RX6 TX6 1 := Or.inl (qWA_in (List.mem_of_getElem? (i := 224) (by decide +kernel)) rfl)
theorem fl_X6_21 : qFl RX6 21 RX6 TX6 2 := Or.inl (qWA_in (List.mem_of_getElem? (i := 225) (by decide +kernel)) rfl)
theorem fl_X6_25 : qFl RX6 25 RX6 TX6 3 := Or.inl (qWA_in (List.mem_of_getElem? (i := 226) (by decide +kernel)) rfl)
theorem fl_X6_33 : qFl RX6 33 RX6 TX6 5 := Or.inl (qWA_in (List.mem_of_getElem? (i := 229) (by decide +kernel)) rfl)
theorem fl_X6_36 : qFl RX6 36 RX6 TX6 4 := Or.inl (qWA_in (List.mem_of_getElem? (i := 227) (by decide +kernel)) rfl)
theorem fl_X6_9 : qFl RX6 9 RX6 TX6 0 := Or.inl (qWA_in (List.mem_of_getElem? (i := 223) (by decide +kernel)) rfl)
theorem fl_X7_12 : qFl RX7 12 RX7 TX7 0 := Or.inl (qWA_in (List.mem_of_getElem? (i := 260) (by decide +kernel)) rfl)
theorem fl_X7_16 : qFl RX7 16 RX7 TX7 1 := Or.inl (qWA_in (List.mem_of_getElem? (i := 261) (by decide +kernel)) rfl)
theorem fl_X7_19 : qFl RX7 19 RX7 TX7 2 := Or.inl (qWA_in (List.mem_of_getElem? (i := 262) (by decide +kernel)) rfl)
theorem fl_X7_25 : qFl RX7 25 RX7 TX7 3 := Or.inl (qWA_in (List.mem_of_getElem? (i := 263) (by decide +kernel)) rfl)
theorem fl_X7_32 : qFl RX7 32 RX7 TX7 4 := Or.inl (qWA_in (List.mem_of_getElem? (i := 264) (by decide +kernel)) rfl)
theorem fl_X7_342 : qFl RX7 342 RX7 TX7 8 := Or.inl (qWA_in (List.mem_of_getElem? (i := 268) (by decide +kernel)) rfl)
theorem fl_X7_39 : qFl RX7 39 RX7 TX7 5 := Or.inl (qWA_in (List.mem_of_getElem? (i := 265) (by decide +kernel)) rfl)
theorem fl_X7_46 : qFl RX7 46 RX7 TX7 6 := Or.inl (qWA_in (List.mem_of_getElem? (i := 266) (by decide +kernel)) rfl)
theorem fl_X7_50 : qFl RX7 50 RX7 TX7 7 := Or.inl (qWA_in (List.mem_of_getElem? (i := 267) (by decide +kernel)) rfl)
theorem fl_X7_54 : qFl RX7 54 RX7 TX7 10 := Or.inl (qWA_in (List.mem_of_getElem? (i := 269) (by decide +kernel)) rfl)
theorem fl_X7_58 : qFl RX7 58 RX7 TX7 11 := Or.inl (qWA_in (List.mem_of_getElem? (i := 270) (by decide +kernel)) rfl)
theorem fl_X7_61 : qFl RX7 61 RX7 TX7 12 := Or.inl (qWA_in (List.mem_of_getElem? (i := 271) (by decide +kernel)) rfl)
theorem fl_J5_15 : qFl RJ5 15 RJ4 TJ4 0 := Or.inl (qWA_in (List.mem_of_getElem? (i := 1090) (by decide +kernel)) rfl)
theorem fw_J5_15 : Cond.fieldLink RJ5 15 (TJ4 0).1 (TJ4 0).2.1 (TJ4 0).2.2.1 ∈ qWA := qWA_in (List.mem_of_getElem? (i := 1090) (by decide +kernel)) rfl
theorem gs_J5_18 : Cond.fieldLink RJ5 18 RJ0 "COMPACT_STRINGS" "Z" ∈ qWA := qWA_in (List.mem_of_getElem? (i := 1082) (by decide +kernel)) rfl
theorem fl_J5_22 : qFl RJ5 22 RJ4 TJ4 1 := Or.inl (qWA_in (List.mem_of_getElem? (i := 1091) (by decide +kernel)) rfl)
theorem fw_J5_22 : Cond.fieldLink RJ5 22 (TJ4 1).1 (TJ4 1).2.1 (TJ4 1).2.2.1 ∈ qWA := qWA_in (List.mem_of_getElem? (i := 1091) (by decide +kernel)) rfl
theorem fl_J5_79 : qFl RJ5 79 RJ4 TJ4 3 := Or.inl (qWA_in (List.mem_of_getElem? (i := 1093) (by decide +kernel)) rfl)
theorem fw_J5_79 : Cond.fieldLink RJ5 79 (TJ4 3).1 (TJ4 3).2.1 (TJ4 3).2.2.1 ∈ qWA := qWA_in (List.mem_of_getElem? (i := 1093) (by decide +kernel)) rfl
theorem gs_J6_83 : Cond.fieldLink RJ6 83 RJ6 "DigitOnes" "[B" ∈ qWA := qWA_in (List.mem_of_getElem? (i := 1214) (by decide +kernel)) rfl
theorem gs_J6_87 : Cond.fieldLink RJ6 87 RJ6 "DigitTens" "[B" ∈ qWA := qWA_in (List.mem_of_getElem? (i := 1216) (by decide +kernel)) rfl
theorem fl_J0_1048 : qFl RJ0 1048 RJ4 TJ4 2 := Or.inl (qWA_in (List.mem_of_getElem? (i := 1092) (by decide +kernel)) rfl)
theorem fw_J0_1048 : Cond.fieldLink RJ0 1048 (TJ4 2).1 (TJ4 2).2.1 (TJ4 2).2.2.1 ∈ qWA := qWA_in (List.mem_of_getElem? (i := 1092) (by decide +kernel)) rfl
theorem gs_J0_1053 : Cond.fieldLink RJ0 1053 RJ3 "SIOOBE_FORMATTER" "Ljava/util/function/BiFunction;" ∈ qWA := qWA_in (List.mem_of_getElem? (i := 713) (by decide +kernel)) rfl
theorem fl_J0_15 : qFl RJ0 15 RJ0 TJ0 1 := Or.inl (qWA_in (List.mem_of_getElem? (i := 1280) (by decide +kernel)) rfl)
theorem fw_J0_15 : Cond.fieldLink RJ0 15 (TJ0 1).1 (TJ0 1).2.1 (TJ0 1).2.2.1 ∈ qWA := qWA_in (List.mem_of_getElem? (i := 1280) (by decide +kernel)) rfl
theorem gs_J0_38 : Cond.fieldLink RJ0 38 RJ0 "COMPACT_STRINGS" "Z" ∈ qWA := qWA_in (List.mem_of_getElem? (i := 697) (by decide +kernel)) rfl
theorem fl_J0_9 : qFl RJ0 9 RJ0 TJ0 0 := Or.inl (qWA_in (List.mem_of_getElem? (i := 1279) (by decide +kernel)) rfl)
theorem fw_J0_9 : Cond.fieldLink RJ0 9 (TJ0 0).1 (TJ0 0).2.1 (TJ0 0).2.2.1 ∈ qWA := qWA_in (List.mem_of_getElem? (i := 1279) (by decide +kernel)) rfl
theorem fl_X4_103 : qFl RX4 103 RX5 TX5 3 := Or.inr ⟨"TaskLeveller", qWA_in (List.mem_of_getElem? (i := 120) (by decide +kernel)) rfl⟩
theorem fl_X4_138 : qFl RX4 138 RX5 TX5 1 := Or.inr ⟨"TaskLeveller", qWA_in (List.mem_of_getElem? (i := 114) (by decide +kernel)) rfl⟩
theorem fl_X4_141 : qFl RX4 141 RX5 TX5 6 := Or.inr ⟨"TaskLeveller", qWA_in (List.mem_of_getElem? (i := 128) (by decide +kernel)) rfl⟩
theorem fl_X4_144 : qFl RX4 144 RX5 TX5 2 := Or.inr ⟨"TaskLeveller", qWA_in (List.mem_of_getElem? (i := 117) (by decide +kernel)) rfl⟩
theorem fl_X4_60 : qFl RX4 60 RX5 TX5 7 := Or.inr ⟨"TaskLeveller", qWA_in (List.mem_of_getElem? (i := 131) (by decide +kernel)) rfl⟩
theorem fl_X4_74 : qFl RX4 74 RX5 TX5 4 := Or.inr ⟨"TaskLeveller", qWA_in (List.mem_of_getElem? (i := 122) (by decide +kernel)) rfl⟩
theorem fl_X4_95 : qFl RX4 95 RX5 TX5 0 := Or.inr ⟨"TaskLeveller", qWA_in (List.mem_of_getElem? (i := 111) (by decide +kernel)) rfl⟩
theorem fl_X7_112 : qFl RX7 112 RX5 TX5 0 := Or.inr ⟨"TaskLeveller", qWA_in (List.mem_of_getElem? (i := 110) (by decide +kernel)) rfl⟩
theorem fl_X7_126 : qFl RX7 126 RX5 TX5 3 := Or.inr ⟨"TaskLeveller", qWA_in (List.mem_of_getElem? (i := 119) (by decide +kernel)) rfl⟩
theorem fl_X7_132 : qFl RX7 132 RX5 TX5 6 := Or.inr ⟨"TaskLeveller", qWA_in (List.mem_of_getElem? (i := 127) (by decide +kernel)) rfl⟩
theorem fl_X7_139 : qFl RX7 139 RX4 TX4 5 := Or.inr ⟨"TaskLeveller", qWA_in (List.mem_of_getElem? (i := 190) (by decide +kernel)) rfl⟩
theorem fl_X7_146 : qFl RX7 146 RX4 TX4 8 := Or.inr ⟨"TaskLeveller", qWA_in (List.mem_of_getElem? (i := 194) (by decide +kernel)) rfl⟩
theorem fl_X7_152 : qFl RX7 152 RX5 TX5 1 := Or.inr ⟨"TaskLeveller", qWA_in (List.mem_of_getElem? (i := 113) (by decide +kernel)) rfl⟩
theorem fl_X7_155 : qFl RX7 155 RX5 TX5 2 := Or.inr ⟨"TaskLeveller", qWA_in (List.mem_of_getElem? (i := 116) (by decide +kernel)) rfl⟩
theorem fl_X7_164 : qFl RX7 164 RX4 TX4 1 := Or.inr ⟨"TaskLeveller", qWA_in (List.mem_of_getElem? (i := 182) (by decide +kernel)) rfl⟩
theorem fl_X7_170 : qFl RX7 170 RX5 TX5 4 := Or.inr ⟨"TaskLeveller", qWA_in (List.mem_of_getElem? (i := 123) (by decide +kernel)) rfl⟩
theorem fl_X7_190 : qFl RX7 190 RX4 TX4 0 := Or.inr ⟨"TaskLeveller", qWA_in (List.mem_of_getElem? (i := 180) (by decide +kernel)) rfl⟩
theorem fl_X7_193 : qFl RX7 193 RX4 TX4 2 := Or.inr ⟨"TaskLeveller", qWA_in (List.mem_of_getElem? (i := 184) (by decide +kernel)) rfl⟩
theorem fl_X7_196 : qFl RX7 196 RX4 TX4 3 := Or.inr ⟨"TaskLeveller", qWA_in (List.mem_of_getElem? (i := 186) (by decide +kernel)) rfl⟩
theorem fl_X7_199 : qFl RX7 199 RX4 TX4 4 := Or.inr ⟨"TaskLeveller", qWA_in (List.mem_of_getElem? (i := 188) (by decide +kernel)) rfl⟩
theorem fl_X7_205 : qFl RX7 205 RX4 TX4 7 := Or.inr ⟨"TaskLeveller", qWA_in (List.mem_of_getElem? (i := 193) (by decide +kernel)) rfl⟩
theorem fl_X7_231 : qFl RX7 231 RX5 TX5 8 := Or.inr ⟨"TaskLeveller", qWA_in (List.mem_of_getElem? (i := 133) (by decide +kernel)) rfl⟩
theorem fl_X7_238 : qFl RX7 238 RX5 TX5 5 := Or.inr ⟨"TaskLeveller", qWA_in (List.mem_of_getElem? (i := 125) (by decide +kernel)) rfl⟩
theorem fl_X7_281 : qFl RX7 281 RX3 TX3 1 := Or.inr ⟨"TaskLeveller", qWA_in (List.mem_of_getElem? (i := 254) (by decide +kernel)) rfl⟩
theorem fl_X7_289 : qFl RX7 289 RX3 TX3 0 := Or.inr ⟨"TaskLeveller", qWA_in (List.mem_of_getElem? (i := 252) (by decide +kernel)) rfl⟩
theorem fl_X7_314 : qFl RX7 314 RX6 TX6 5 := Or.inr ⟨"TaskLeveller", qWA_in (List.mem_of_getElem? (i := 230) (by decide +kernel)) rfl⟩
theorem fl_X7_323 : qFl RX7 323 RX6 TX6 4 := Or.inr ⟨"TaskLeveller", qWA_in (List.mem_of_getElem? (i := 228) (by decide +kernel)) rfl⟩
theorem fl_X7_88 : qFl RX7 88 RX5 TX5 7 := Or.inr ⟨"TaskLeveller", qWA_in (List.mem_of_getElem? (i := 130) (by decide +kernel)) rfl⟩
theorem lk_X2_22 : Cond.methodLink RX2 22 yX2_stateAt ∈ qWA := qWA_in (List.mem_of_getElem? (i := 482) (by decide +kernel)) rfl
theorem lk_X3_19 : Cond.methodLink RX3 19 yX3_write ∈ qWA := qWA_in (List.mem_of_getElem? (i := 1327) (by decide +kernel)) rfl
theorem lk_X4_106 : Cond.methodLink RX4 106 yX4_improve ∈ qWA := qWA_in (List.mem_of_getElem? (i := 634) (by decide +kernel)) rfl
theorem lk_X4_110 : Cond.methodLink RX4 110 yX4_soonestStart ∈ qWA := qWA_in (List.mem_of_getElem? (i := 638) (by decide +kernel)) rfl
theorem lk_X4_123 : Cond.methodLink RX4 123 yX4_mostUrgent ∈ qWA := qWA_in (List.mem_of_getElem? (i := 651) (by decide +kernel)) rfl
theorem lk_X4_127 : Cond.methodLink RX4 127 yX4_lowestFit ∈ qWA := qWA_in (List.mem_of_getElem? (i := 655) (by decide +kernel)) rfl
theorem lk_X4_130 : Cond.methodLink RX4 130 yX4_place ∈ qWA := qWA_in (List.mem_of_getElem? (i := 663) (by decide +kernel)) rfl
theorem lk_X4_134 : Cond.methodLink RX4 134 yX4_fits ∈ qWA := qWA_in (List.mem_of_getElem? (i := 659) (by decide +kernel)) rfl
theorem lk_X4_33 : Cond.methodLink RX4 33 yX4_findOrder ∈ qWA := qWA_in (List.mem_of_getElem? (i := 605) (by decide +kernel)) rfl
theorem lk_X4_37 : Cond.methodLink RX4 37 yX4_findClosure ∈ qWA := qWA_in (List.mem_of_getElem? (i := 614) (by decide +kernel)) rfl
theorem lk_X4_40 : Cond.methodLink RX4 40 yX4_findEarliest ∈ qWA := qWA_in (List.mem_of_getElem? (i := 621) (by decide +kernel)) rfl
theorem lk_X4_43 : Cond.methodLink RX4 43 yX4_findImproved ∈ qWA := qWA_in (List.mem_of_getElem? (i := 630) (by decide +kernel)) rfl
theorem lk_X4_46 : Cond.methodLink RX4 46 yX4_findLatest ∈ qWA := qWA_in (List.mem_of_getElem? (i := 641) (by decide +kernel)) rfl
theorem lk_X4_49 : Cond.methodLink RX4 49 yX4_findLevelled ∈ qWA := qWA_in (List.mem_of_getElem? (i := 647) (by decide +kernel)) rfl
theorem lk_X4_56 : Cond.methodLink RX4 56 yX4_usedOn ∈ qWA := qWA_in (List.mem_of_getElem? (i := 1310) (by decide +kernel)) rfl
theorem lk_X4_91 : Cond.methodLink RX4 91 yX4_earliestOf ∈ qWA := qWA_in (List.mem_of_getElem? (i := 626) (by decide +kernel)) rfl
theorem lk_X5_53 : Cond.methodLink RX5 53 yX5_faultOfTask ∈ qWA := qWA_in (List.mem_of_getElem? (i := 536) (by decide +kernel)) rfl
theorem lk_X5_57 : Cond.methodLink RX5 57 yX5_faultOfPair ∈ qWA := qWA_in (List.mem_of_getElem? (i := 532) (by decide +kernel)) rfl
theorem lk_X5_61 : Cond.methodLink RX5 61 yX5_reaches ∈ qWA := qWA_in (List.mem_of_getElem? (i := 537) (by decide +kernel)) rfl
theorem lk_X5_79 : Cond.methodLink RX5 79 yX5_search ∈ qWA := qWA_in (List.mem_of_getElem? (i := 541) (by decide +kernel)) rfl
theorem lk_X6_64 : Cond.methodLink RX6 64 yJ0_length_8abf5 ∈ qWA := qWA_in (List.mem_of_getElem? (i := 689) (by decide +kernel)) rfl
theorem lk_X6_69 : Cond.methodLink RX6 69 yJ0_charAt_5068e ∈ qWA := qWA_in (List.mem_of_getElem? (i := 699) (by decide +kernel)) rfl
theorem lk_X7_115 : Cond.methodLink RX7 115 yX7_at ∈ qWA := qWA_in (List.mem_of_getElem? (i := 575) (by decide +kernel)) rfl
theorem lk_X7_119 : Cond.methodLink RX7 119 yX7_put ∈ qWA := qWA_in (List.mem_of_getElem? (i := 576) (by decide +kernel)) rfl
theorem lk_X7_135 : Cond.methodLink RX7 135 yX7_currentPlan ∈ qWA := qWA_in (List.mem_of_getElem? (i := 597) (by decide +kernel)) rfl
theorem lk_X7_149 : Cond.methodLink RX7 149 yX7_requireTask ∈ qWA := qWA_in (List.mem_of_getElem? (i := 805) (by decide +kernel)) rfl
theorem lk_X7_158 : Cond.methodLink RX7 158 yX7_requireResource ∈ qWA := qWA_in (List.mem_of_getElem? (i := 873) (by decide +kernel)) rfl
theorem lk_X7_167 : Cond.methodLink RX7 167 yX7_hasBit ∈ qWA := qWA_in (List.mem_of_getElem? (i := 971) (by decide +kernel)) rfl
theorem lk_X7_173 : Cond.methodLink RX7 173 yJ6_bitCount_0f7a4 ∈ qWA := qWA_in (List.mem_of_getElem? (i := 976) (by decide +kernel)) rfl
theorem lk_X7_179 : Cond.methodLink RX7 179 yX7_isWithin ∈ qWA := qWA_in (List.mem_of_getElem? (i := 838) (by decide +kernel)) rfl
theorem lk_X7_210 : Cond.methodLink RX7 210 yX7_requireDay ∈ qWA := qWA_in (List.mem_of_getElem? (i := 877) (by decide +kernel)) rfl
theorem lk_X7_217 : Cond.methodLink RX7 217 yX7_isWorkedOn ∈ qWA := qWA_in (List.mem_of_getElem? (i := 960) (by decide +kernel)) rfl
theorem lk_X7_235 : Cond.methodLink RX7 235 yX7_requireBaselineStart ∈ qWA := qWA_in (List.mem_of_getElem? (i := 889) (by decide +kernel)) rfl
theorem lk_X7_241 : Cond.methodLink RX7 241 yX7_driftOf ∈ qWA := qWA_in (List.mem_of_getElem? (i := 903) (by decide +kernel)) rfl
theorem lk_X7_253 : Cond.methodLink RX7 253 yX7_sortingKey ∈ qWA := qWA_in (List.mem_of_getElem? (i := 918) (by decide +kernel)) rfl
theorem lk_X7_256 : Cond.methodLink RX7 256 yX7_taskAtRank ∈ qWA := qWA_in (List.mem_of_getElem? (i := 921) (by decide +kernel)) rfl
theorem lk_X7_262 : Cond.methodLink RX7 262 yX7_startsAgree ∈ qWA := qWA_in (List.mem_of_getElem? (i := 1347) (by decide +kernel)) rfl
theorem lk_X7_266 : Cond.methodLink RX7 266 yX7_dependenciesAgree ∈ qWA := qWA_in (List.mem_of_getElem? (i := 1351) (by decide +kernel)) rfl
theorem lk_X7_269 : Cond.methodLink RX7 269 yX7_workloadsAgree ∈ qWA := qWA_in (List.mem_of_getElem? (i := 1355) (by decide +kernel)) rfl
theorem lk_X7_293 : Cond.methodLink RX7 293 yX7_charAt ∈ qWA := qWA_in (List.mem_of_getElem? (i := 1337) (by decide +kernel)) rfl
theorem lk_X7_385 : Cond.methodLink RX7 385 yX7_countBefore ∈ qWA := qWA_in (List.mem_of_getElem? (i := 925) (by decide +kernel)) rfl
theorem lk_X7_69 : Cond.methodLink RX7 69 yX7_refuse ∈ qWA := qWA_in (List.mem_of_getElem? (i := 410) (by decide +kernel)) rfl
theorem lk_X7_73 : Cond.methodLink RX7 73 yX7_beginChange ∈ qWA := qWA_in (List.mem_of_getElem? (i := 474) (by decide +kernel)) rfl
theorem lk_L_108 : Cond.methodLink RL 108 yX7_drift ∈ qWA := qWA_in (List.mem_of_getElem? (i := 952) (by decide +kernel)) rfl
theorem lk_L_111 : Cond.methodLink RL 111 yX7_tasksOn ∈ qWA := qWA_in (List.mem_of_getElem? (i := 956) (by decide +kernel)) rfl
theorem lk_L_114 : Cond.methodLink RL 114 yL_asked ∈ qWA := qWA_in (List.mem_of_getElem? (i := 826) (by decide +kernel)) rfl
theorem lk_L_120 : Cond.methodLink RL 120 yL_pick ∈ qWA := qWA_in (List.mem_of_getElem? (i := 299) (by decide +kernel)) rfl
theorem lk_L_124 : Cond.methodLink RL 124 yL_deed ∈ qWA := qWA_in (List.mem_of_getElem? (i := 310) (by decide +kernel)) rfl
theorem lk_L_127 : Cond.methodLink RL 127 yX7_taskCount ∈ qWA := qWA_in (List.mem_of_getElem? (i := 790) (by decide +kernel)) rfl
theorem lk_L_135 : Cond.methodLink RL 135 yX7_limit ∈ qWA := qWA_in (List.mem_of_getElem? (i := 1060) (by decide +kernel)) rfl
theorem lk_L_138 : Cond.methodLink RL 138 yX7_hasBaseline ∈ qWA := qWA_in (List.mem_of_getElem? (i := 1369) (by decide +kernel)) rfl
theorem lk_L_142 : Cond.methodLink RL 142 yX7_resource ∈ qWA := qWA_in (List.mem_of_getElem? (i := 1052) (by decide +kernel)) rfl
theorem lk_L_145 : Cond.methodLink RL 145 yX7_demand ∈ qWA := qWA_in (List.mem_of_getElem? (i := 1056) (by decide +kernel)) rfl
theorem lk_L_148 : Cond.methodLink RL 148 yX7_release ∈ qWA := qWA_in (List.mem_of_getElem? (i := 992) (by decide +kernel)) rfl
theorem lk_L_15 : Cond.methodLink RL 15 yX7_addTask ∈ qWA := qWA_in (List.mem_of_getElem? (i := 399) (by decide +kernel)) rfl
theorem lk_L_151 : Cond.methodLink RL 151 yL_ask ∈ qWA := qWA_in (List.mem_of_getElem? (i := 822) (by decide +kernel)) rfl
theorem lk_L_154 : Cond.methodLink RL 154 yX7_dependsDirectly ∈ qWA := qWA_in (List.mem_of_getElem? (i := 818) (by decide +kernel)) rfl
theorem lk_L_157 : Cond.methodLink RL 157 yL_isBehind ∈ qWA := qWA_in (List.mem_of_getElem? (i := 964) (by decide +kernel)) rfl
theorem lk_L_161 : Cond.methodLink RL 161 yL_isFree ∈ qWA := qWA_in (List.mem_of_getElem? (i := 815) (by decide +kernel)) rfl
theorem lk_L_165 : Cond.methodLink RL 165 yL_ordered ∈ qWA := qWA_in (List.mem_of_getElem? (i := 812) (by decide +kernel)) rfl
theorem lk_L_169 : Cond.methodLink RL 169 yX7_dependsByClosure ∈ qWA := qWA_in (List.mem_of_getElem? (i := 967) (by decide +kernel)) rfl
theorem lk_L_172 : Cond.methodLink RL 172 yX7_neededCount ∈ qWA := qWA_in (List.mem_of_getElem? (i := 972) (by decide +kernel)) rfl
theorem lk_L_175 : Cond.methodLink RL 175 yX7_dependentCount ∈ qWA := qWA_in (List.mem_of_getElem? (i := 982) (by decide +kernel)) rfl
theorem lk_L_178 : Cond.methodLink RL 178 yL_soonest ∈ qWA := qWA_in (List.mem_of_getElem? (i := 989) (by decide +kernel)) rfl
theorem lk_L_185 : Cond.methodLink RL 185 yL_last ∈ qWA := qWA_in (List.mem_of_getElem? (i := 798) (by decide +kernel)) rfl
theorem lk_L_189 : Cond.methodLink RL 189 yX7_projectLength ∈ qWA := qWA_in (List.mem_of_getElem? (i := 1003) (by decide +kernel)) rfl
theorem lk_L_192 : Cond.methodLink RL 192 yX7_earliestStartByRounds ∈ qWA := qWA_in (List.mem_of_getElem? (i := 1007) (by decide +kernel)) rfl
theorem lk_L_195 : Cond.methodLink RL 195 yX7_latestStart ∈ qWA := qWA_in (List.mem_of_getElem? (i := 1011) (by decide +kernel)) rfl
theorem lk_L_198 : Cond.methodLink RL 198 yX7_slack ∈ qWA := qWA_in (List.mem_of_getElem? (i := 1015) (by decide +kernel)) rfl
theorem lk_L_201 : Cond.methodLink RL 201 yX7_isCritical ∈ qWA := qWA_in (List.mem_of_getElem? (i := 1019) (by decide +kernel)) rfl
theorem lk_L_205 : Cond.methodLink RL 205 yX7_criticalCount ∈ qWA := qWA_in (List.mem_of_getElem? (i := 1023) (by decide +kernel)) rfl
theorem lk_L_208 : Cond.methodLink RL 208 yX7_meanSlack ∈ qWA := qWA_in (List.mem_of_getElem? (i := 1027) (by decide +kernel)) rfl
theorem lk_L_21 : Cond.methodLink RL 21 yX7_removeTask ∈ qWA := qWA_in (List.mem_of_getElem? (i := 503) (by decide +kernel)) rfl
theorem lk_L_212 : Cond.methodLink RL 212 yL_fits ∈ qWA := qWA_in (List.mem_of_getElem? (i := 1049) (by decide +kernel)) rfl
theorem lk_L_216 : Cond.methodLink RL 216 yX7_levelledLength ∈ qWA := qWA_in (List.mem_of_getElem? (i := 1067) (by decide +kernel)) rfl
theorem lk_L_226 : Cond.methodLink RL 226 yJ4_init_da8c8 ∈ qWA := qWA_in (List.mem_of_getElem? (i := 1075) (by decide +kernel)) rfl
theorem lk_L_227 : Cond.methodLink RL 227 yJ4_append_15ec4 ∈ qWA := qWA_in (List.mem_of_getElem? (i := 1103) (by decide +kernel)) rfl
theorem lk_L_233 : Cond.methodLink RL 233 yJ4_append_bf812 ∈ qWA := qWA_in (List.mem_of_getElem? (i := 1201) (by decide +kernel)) rfl
theorem lk_L_236 : Cond.methodLink RL 236 yJ4_toString_0e30d ∈ qWA := qWA_in (List.mem_of_getElem? (i := 1226) (by decide +kernel)) rfl
theorem lk_L_240 : Cond.methodLink RL 240 yX7_usageByTasks ∈ qWA := qWA_in (List.mem_of_getElem? (i := 1286) (by decide +kernel)) rfl
theorem lk_L_243 : Cond.methodLink RL 243 yX7_peakUsage ∈ qWA := qWA_in (List.mem_of_getElem? (i := 1290) (by decide +kernel)) rfl
theorem lk_L_246 : Cond.methodLink RL 246 yX7_workload ∈ qWA := qWA_in (List.mem_of_getElem? (i := 1294) (by decide +kernel)) rfl
theorem lk_L_249 : Cond.methodLink RL 249 yX7_workloadByDays ∈ qWA := qWA_in (List.mem_of_getElem? (i := 1302) (by decide +kernel)) rfl
theorem lk_L_25 : Cond.methodLink RL 25 yX7_addDependency ∈ qWA := qWA_in (List.mem_of_getElem? (i := 524) (by decide +kernel)) rfl
theorem lk_L_252 : Cond.methodLink RL 252 yX7_renderUsage ∈ qWA := qWA_in (List.mem_of_getElem? (i := 1311) (by decide +kernel)) rfl
theorem lk_L_255 : Cond.methodLink RL 255 yL_isLine ∈ qWA := qWA_in (List.mem_of_getElem? (i := 1328) (by decide +kernel)) rfl
theorem lk_L_259 : Cond.methodLink RL 259 yX7_utilization ∈ qWA := qWA_in (List.mem_of_getElem? (i := 1339) (by decide +kernel)) rfl
theorem lk_L_263 : Cond.methodLink RL 263 yX7_isConsistent ∈ qWA := qWA_in (List.mem_of_getElem? (i := 1343) (by decide +kernel)) rfl
theorem lk_L_266 : Cond.methodLink RL 266 yJ0_length_8abf5 ∈ qWA := qWA_in (List.mem_of_getElem? (i := 1331) (by decide +kernel)) rfl
theorem lk_L_271 : Cond.methodLink RL 271 yX7_outputAt ∈ qWA := qWA_in (List.mem_of_getElem? (i := 1332) (by decide +kernel)) rfl
theorem lk_L_275 : Cond.methodLink RL 275 yJ0_charAt_5068e ∈ qWA := qWA_in (List.mem_of_getElem? (i := 1338) (by decide +kernel)) rfl
theorem lk_L_29 : Cond.methodLink RL 29 yL_told ∈ qWA := qWA_in (List.mem_of_getElem? (i := 555) (by decide +kernel)) rfl
theorem lk_L_293 : Cond.methodLink RL 293 yX7_renderTask ∈ qWA := qWA_in (List.mem_of_getElem? (i := 1373) (by decide +kernel)) rfl
theorem lk_L_297 : Cond.methodLink RL 297 yL_lay ∈ qWA := qWA_in (List.mem_of_getElem? (i := 307) (by decide +kernel)) rfl
theorem lk_L_301 : Cond.methodLink RL 301 yL_any ∈ qWA := qWA_in (List.mem_of_getElem? (i := 795) (by decide +kernel)) rfl
theorem lk_L_305 : Cond.methodLink RL 305 yL_earliest ∈ qWA := qWA_in (List.mem_of_getElem? (i := 986) (by decide +kernel)) rfl
theorem lk_L_308 : Cond.methodLink RL 308 yL_latest ∈ qWA := qWA_in (List.mem_of_getElem? (i := 996) (by decide +kernel)) rfl
theorem lk_L_314 : Cond.methodLink RL 314 yL_levelled ∈ qWA := qWA_in (List.mem_of_getElem? (i := 1046) (by decide +kernel)) rfl
theorem lk_L_318 : Cond.methodLink RL 318 yL_areDependenciesRight ∈ qWA := qWA_in (List.mem_of_getElem? (i := 809) (by decide +kernel)) rfl
theorem lk_L_322 : Cond.methodLink RL 322 yL_areStartsRight ∈ qWA := qWA_in (List.mem_of_getElem? (i := 1000) (by decide +kernel)) rfl
theorem lk_L_326 : Cond.methodLink RL 326 yL_areLevelsRight ∈ qWA := qWA_in (List.mem_of_getElem? (i := 1064) (by decide +kernel)) rfl
theorem lk_L_33 : Cond.methodLink RL 33 yX7_removeDependency ∈ qWA := qWA_in (List.mem_of_getElem? (i := 558) (by decide +kernel)) rfl
theorem lk_L_330 : Cond.methodLink RL 330 yL_areTasksTold ∈ qWA := qWA_in (List.mem_of_getElem? (i := 1359) (by decide +kernel)) rfl
theorem lk_L_36 : Cond.methodLink RL 36 yX7_setDuration ∈ qWA := qWA_in (List.mem_of_getElem? (i := 567) (by decide +kernel)) rfl
theorem lk_L_40 : Cond.methodLink RL 40 yX7_setRelease ∈ qWA := qWA_in (List.mem_of_getElem? (i := 577) (by decide +kernel)) rfl
theorem lk_L_43 : Cond.methodLink RL 43 yX7_setLimit ∈ qWA := qWA_in (List.mem_of_getElem? (i := 585) (by decide +kernel)) rfl
theorem lk_L_46 : Cond.methodLink RL 46 yX7_takeBaseline ∈ qWA := qWA_in (List.mem_of_getElem? (i := 593) (by decide +kernel)) rfl
theorem lk_L_53 : Cond.methodLink RL 53 yL_plain ∈ qWA := qWA_in (List.mem_of_getElem? (i := 396) (by decide +kernel)) rfl
theorem lk_L_65 : Cond.methodLink RL 65 yX7_duration ∈ qWA := qWA_in (List.mem_of_getElem? (i := 801) (by decide +kernel)) rfl
theorem lk_L_68 : Cond.methodLink RL 68 yX7_depends ∈ qWA := qWA_in (List.mem_of_getElem? (i := 829) (by decide +kernel)) rfl
theorem lk_L_71 : Cond.methodLink RL 71 yX7_taskInOrder ∈ qWA := qWA_in (List.mem_of_getElem? (i := 834) (by decide +kernel)) rfl
theorem lk_L_74 : Cond.methodLink RL 74 yX7_earliestStart ∈ qWA := qWA_in (List.mem_of_getElem? (i := 856) (by decide +kernel)) rfl
theorem lk_L_77 : Cond.methodLink RL 77 yX7_lastTask ∈ qWA := qWA_in (List.mem_of_getElem? (i := 860) (by decide +kernel)) rfl
theorem lk_L_80 : Cond.methodLink RL 80 yX7_levelledStart ∈ qWA := qWA_in (List.mem_of_getElem? (i := 865) (by decide +kernel)) rfl
theorem lk_L_83 : Cond.methodLink RL 83 yX7_usage ∈ qWA := qWA_in (List.mem_of_getElem? (i := 869) (by decide +kernel)) rfl
theorem lk_L_86 : Cond.methodLink RL 86 yX7_baselineStart ∈ qWA := qWA_in (List.mem_of_getElem? (i := 885) (by decide +kernel)) rfl
theorem lk_L_89 : Cond.methodLink RL 89 yX7_totalDrift ∈ qWA := qWA_in (List.mem_of_getElem? (i := 898) (by decide +kernel)) rfl
theorem lk_L_9 : Cond.methodLink RL 9 yL_cell ∈ qWA := qWA_in (List.mem_of_getElem? (i := 302) (by decide +kernel)) rfl
theorem lk_L_92 : Cond.methodLink RL 92 yX7_taskBySlack ∈ qWA := qWA_in (List.mem_of_getElem? (i := 910) (by decide +kernel)) rfl
theorem lk_L_95 : Cond.methodLink RL 95 yX7_taskByStart ∈ qWA := qWA_in (List.mem_of_getElem? (i := 930) (by decide +kernel)) rfl
theorem lk_J5_100 : Cond.methodLink RJ5 100 yJ5_ensureCapacityInternal_d00df ∈ qWA := qWA_in (List.mem_of_getElem? (i := 1114) (by decide +kernel)) rfl
theorem lk_J5_104 : Cond.methodLink RJ5 104 yJ5_newCapacity_0f7a4 ∈ qWA := qWA_in (List.mem_of_getElem? (i := 1118) (by decide +kernel)) rfl
theorem lk_J5_108 : Cond.methodLink RJ5 108 yJ7_copyOf_9075b ∈ qWA := qWA_in (List.mem_of_getElem? (i := 1131) (by decide +kernel)) rfl
theorem lk_J5_114 : Cond.methodLink RJ5 114 yJ8_newLength_cabcc ∈ qWA := qWA_in (List.mem_of_getElem? (i := 1122) (by decide +kernel)) rfl
theorem lk_J5_208 : Cond.methodLink RJ5 208 yJ5_putStringAt_47b60 ∈ qWA := qWA_in (List.mem_of_getElem? (i := 1166) (by decide +kernel)) rfl
theorem lk_J5_245 : Cond.methodLink RJ5 245 yJ6_stringSize_0f7a4 ∈ qWA := qWA_in (List.mem_of_getElem? (i := 1208) (by decide +kernel)) rfl
theorem lk_J5_248 : Cond.methodLink RJ5 248 yJ6_getChars_ba4f3 ∈ qWA := qWA_in (List.mem_of_getElem? (i := 1211) (by decide +kernel)) rfl
theorem ol_J5_3 : Cond.methodLink RJ5 3 objectInit ∈ qWA := qWA_in (List.mem_of_getElem? (i := 1081) (by decide +kernel)) rfl
theorem lk_J5_32 : Cond.methodLink RJ5 32 yJ0_length_8abf5 ∈ qWA := qWA_in (List.mem_of_getElem? (i := 1165) (by decide +kernel)) rfl
theorem lk_J5_397 : Cond.methodLink RJ5 397 yJ5_inflateIfNeededFor_a7421 ∈ qWA := qWA_in (List.mem_of_getElem? (i := 1170) (by decide +kernel)) rfl
theorem lk_J5_399 : Cond.methodLink RJ5 399 yJ0_getBytes_840e7 ∈ qWA := qWA_in (List.mem_of_getElem? (i := 1194) (by decide +kernel)) rfl
theorem lk_J5_40 : Cond.methodLink RJ5 40 yJ0_coder_7d493 ∈ qWA := qWA_in (List.mem_of_getElem? (i := 1174) (by decide +kernel)) rfl
theorem lk_J5_83 : Cond.methodLink RJ5 83 yJ5_isLatin1_aae02 ∈ qWA := qWA_in (List.mem_of_getElem? (i := 1145) (by decide +kernel)) rfl
theorem ol_J0_1 : Cond.methodLink RJ0 1 objectInit ∈ qWA := qWA_in (List.mem_of_getElem? (i := 1237) (by decide +kernel)) rfl
theorem lk_J0_1047 : Cond.methodLink RJ0 1047 yJ5_isLatin1_aae02 ∈ qWA := qWA_in (List.mem_of_getElem? (i := 1251) (by decide +kernel)) rfl
theorem lk_J0_1059 : Cond.methodLink RJ0 1059 yJ3_checkIndex_8e157 ∈ qWA := qWA_in (List.mem_of_getElem? (i := 715) (by decide +kernel)) rfl
theorem cp_J0_212 : qcpw RJ0 212 := ⟨qWA_in (List.mem_of_getElem? (i := 1198) (by decide +kernel)) rfl, qWA_in (List.mem_of_getElem? (i := 1144) (by decide +kernel)) rfl, qWA_in (List.mem_of_getElem? (i := 1143) (by decide +kernel)) rfl, qWA_in (List.mem_of_getElem? (i := 91) (by decide +kernel)) rfl⟩
theorem lk_J0_335 : Cond.methodLink RJ0 335 yJ0_coder_7d493 ∈ qWA := qWA_in (List.mem_of_getElem? (i := 693) (by decide +kernel)) rfl
theorem lk_J0_489 : Cond.methodLink RJ0 489 yJ0_init_db425 ∈ qWA := qWA_in (List.mem_of_getElem? (i := 1234) (by decide +kernel)) rfl
theorem lk_J0_492 : Cond.methodLink RJ0 492 yJ0_isLatin1_aae02 ∈ qWA := qWA_in (List.mem_of_getElem? (i := 703) (by decide +kernel)) rfl
theorem lk_J0_495 : Cond.methodLink RJ0 495 yJ1_charAt_3b067 ∈ qWA := qWA_in (List.mem_of_getElem? (i := 707) (by decide +kernel)) rfl
theorem lk_J0_54 : Cond.methodLink RJ0 54 yJ7_copyOfRange_39247 ∈ qWA := qWA_in (List.mem_of_getElem? (i := 1252) (by decide +kernel)) rfl
theorem lk_J0_549 : Cond.methodLink RJ0 549 yJ5_length_8abf5 ∈ qWA := qWA_in (List.mem_of_getElem? (i := 1243) (by decide +kernel)) rfl
theorem lk_J0_552 : Cond.methodLink RJ0 552 yJ5_getValue_6d5f1 ∈ qWA := qWA_in (List.mem_of_getElem? (i := 1238) (by decide +kernel)) rfl
theorem lk_J4_1 : Cond.methodLink RJ4 1 yJ5_init_d00df ∈ qWA := qWA_in (List.mem_of_getElem? (i := 1078) (by decide +kernel)) rfl
theorem lk_J4_137 : Cond.methodLink RJ4 137 yJ0_init_81219 ∈ qWA := qWA_in (List.mem_of_getElem? (i := 1231) (by decide +kernel)) rfl
theorem lk_J4_29 : Cond.methodLink RJ4 29 yJ5_append_cf1ce ∈ qWA := qWA_in (List.mem_of_getElem? (i := 1107) (by decide +kernel)) rfl
theorem lk_J4_343 : Cond.methodLink RJ4 343 yJ5_length_8abf5 ∈ qWA := qWA_in (List.mem_of_getElem? (i := 1249) (by decide +kernel)) rfl
theorem lk_J4_53 : Cond.methodLink RJ4 53 yJ5_append_c97b9 ∈ qWA := qWA_in (List.mem_of_getElem? (i := 1205) (by decide +kernel)) rfl
theorem lk_J1_9 : Cond.methodLink RJ1 9 yJ0_checkIndex_df160 ∈ qWA := qWA_in (List.mem_of_getElem? (i := 710) (by decide +kernel)) rfl
theorem cp_J7_150 : qcpw RJ7 150 := ⟨qWA_in (List.mem_of_getElem? (i := 1142) (by decide +kernel)) rfl, qWA_in (List.mem_of_getElem? (i := 1144) (by decide +kernel)) rfl, qWA_in (List.mem_of_getElem? (i := 1143) (by decide +kernel)) rfl, qWA_in (List.mem_of_getElem? (i := 91) (by decide +kernel)) rfl⟩
theorem clo_J7_310 : qclw RJ7 310 := ⟨qWA_in (List.mem_of_getElem? (i := 1134) (by decide +kernel)) rfl, qWA_in (List.mem_of_getElem? (i := 1135) (by decide +kernel)) rfl, qWA_in (List.mem_of_getElem? (i := 1136) (by decide +kernel)) rfl, qWA_in (List.mem_of_getElem? (i := 1137) (by decide +kernel)) rfl, qWA_in (List.mem_of_getElem? (i := 1138) (by decide +kernel)) rfl, qWA_in (List.mem_of_getElem? (i := 1139) (by decide +kernel)) rfl⟩
theorem lk_J7_339 : Cond.methodLink RJ7 339 yJ7_copyOfRangeByte_39247 ∈ qWA := qWA_in (List.mem_of_getElem? (i := 1255) (by decide +kernel)) rfl
theorem lk_J7_343 : Cond.methodLink RJ7 343 yJ7_checkLength_df160 ∈ qWA := qWA_in (List.mem_of_getElem? (i := 1258) (by decide +kernel)) rfl
theorem lk_J7_47 : Cond.methodLink RJ7 47 yJ4_init_da8c8 ∈ qWA := qWA_in (List.mem_of_getElem? (i := 1263) (by decide +kernel)) rfl
theorem lk_J7_50 : Cond.methodLink RJ7 50 yJ4_append_15ec4 ∈ qWA := qWA_in (List.mem_of_getElem? (i := 1266) (by decide +kernel)) rfl
theorem lk_J7_54 : Cond.methodLink RJ7 54 yJ4_append_bf812 ∈ qWA := qWA_in (List.mem_of_getElem? (i := 1264) (by decide +kernel)) rfl
theorem lk_J7_61 : Cond.methodLink RJ7 61 yJ4_toString_0e30d ∈ qWA := qWA_in (List.mem_of_getElem? (i := 1267) (by decide +kernel)) rfl
theorem lk_X2_26 : ∃ host : String, Cond.methodLinkNest RX2 26 yX5_copyFrom host ∈ qWA := ⟨"TaskLeveller", qWA_in (List.mem_of_getElem? (i := 486) (by decide +kernel)) rfl⟩
theorem lk_X4_114 : ∃ host : String, Cond.methodLinkNest RX4 114 yX5_isLinked host ∈ qWA := ⟨"TaskLeveller", qWA_in (List.mem_of_getElem? (i := 645) (by decide +kernel)) rfl⟩
theorem lk_X4_52 : ∃ host : String, Cond.methodLinkNest RX4 52 yX7_at host ∈ qWA := ⟨"TaskLeveller", qWA_in (List.mem_of_getElem? (i := 619) (by decide +kernel)) rfl⟩
theorem lk_X4_66 : ∃ host : String, Cond.methodLinkNest RX4 66 yX5_isReady host ∈ qWA := ⟨"TaskLeveller", qWA_in (List.mem_of_getElem? (i := 609) (by decide +kernel)) rfl⟩
theorem lk_X4_70 : ∃ host : String, Cond.methodLinkNest RX4 70 yX7_put host ∈ qWA := ⟨"TaskLeveller", qWA_in (List.mem_of_getElem? (i := 613) (by decide +kernel)) rfl⟩
theorem lk_X4_77 : ∃ host : String, Cond.methodLinkNest RX4 77 yX7_copyRow host ∈ qWA := ⟨"TaskLeveller", qWA_in (List.mem_of_getElem? (i := 618) (by decide +kernel)) rfl⟩
theorem lk_X4_81 : ∃ host : String, Cond.methodLinkNest RX4 81 yX7_hasBit host ∈ qWA := ⟨"TaskLeveller", qWA_in (List.mem_of_getElem? (i := 620) (by decide +kernel)) rfl⟩
theorem lk_X4_84 : ∃ host : String, Cond.methodLinkNest RX4 84 yX7_fillRow host ∈ qWA := ⟨"TaskLeveller", qWA_in (List.mem_of_getElem? (i := 625) (by decide +kernel)) rfl⟩
theorem lk_X5_33 : ∃ host : String, Cond.methodLinkNest RX5 33 yX7_fillRow host ∈ qWA := ⟨"TaskLeveller", qWA_in (List.mem_of_getElem? (i := 106) (by decide +kernel)) rfl⟩
theorem lk_X5_37 : ∃ host : String, Cond.methodLinkNest RX5 37 yX7_copyRow host ∈ qWA := ⟨"TaskLeveller", qWA_in (List.mem_of_getElem? (i := 490) (by decide +kernel)) rfl⟩
theorem lk_X5_49 : ∃ host : String, Cond.methodLinkNest RX5 49 yX7_isWithin host ∈ qWA := ⟨"TaskLeveller", qWA_in (List.mem_of_getElem? (i := 407) (by decide +kernel)) rfl⟩
theorem lk_X5_65 : ∃ host : String, Cond.methodLinkNest RX5 65 yX7_put host ∈ qWA := ⟨"TaskLeveller", qWA_in (List.mem_of_getElem? (i := 500) (by decide +kernel)) rfl⟩
theorem lk_X5_69 : ∃ host : String, Cond.methodLinkNest RX5 69 yX7_closeGap host ∈ qWA := ⟨"TaskLeveller", qWA_in (List.mem_of_getElem? (i := 515) (by decide +kernel)) rfl⟩
theorem lk_X5_72 : ∃ host : String, Cond.methodLinkNest RX5 72 yX7_at host ∈ qWA := ⟨"TaskLeveller", qWA_in (List.mem_of_getElem? (i := 521) (by decide +kernel)) rfl⟩
theorem lk_X5_76 : ∃ host : String, Cond.methodLinkNest RX5 76 yX7_hasBit host ∈ qWA := ⟨"TaskLeveller", qWA_in (List.mem_of_getElem? (i := 544) (by decide +kernel)) rfl⟩
theorem lk_X6_29 : ∃ host : String, Cond.methodLinkNest RX6 29 yX7_at host ∈ qWA := ⟨"TaskLeveller", qWA_in (List.mem_of_getElem? (i := 769) (by decide +kernel)) rfl⟩
theorem lk_X6_43 : ∃ host : String, Cond.methodLinkNest RX6 43 yX7_charAt host ∈ qWA := ⟨"TaskLeveller", qWA_in (List.mem_of_getElem? (i := 745) (by decide +kernel)) rfl⟩
theorem lk_X6_80 : ∃ host : String, Cond.methodLinkNest RX6 80 yX7_put host ∈ qWA := ⟨"TaskLeveller", qWA_in (List.mem_of_getElem? (i := 749) (by decide +kernel)) rfl⟩
theorem lk_X6_84 : ∃ host : String, Cond.methodLinkNest RX6 84 yX7_isWithin host ∈ qWA := ⟨"TaskLeveller", qWA_in (List.mem_of_getElem? (i := 748) (by decide +kernel)) rfl⟩
theorem lk_X7_103 : ∃ host : String, Cond.methodLinkNest RX7 103 yX5_faultOfPair host ∈ qWA := ⟨"TaskLeveller", qWA_in (List.mem_of_getElem? (i := 562) (by decide +kernel)) rfl⟩
theorem lk_X7_106 : ∃ host : String, Cond.methodLinkNest RX7 106 yX5_unlink host ∈ qWA := ⟨"TaskLeveller", qWA_in (List.mem_of_getElem? (i := 563) (by decide +kernel)) rfl⟩
theorem lk_X7_109 : ∃ host : String, Cond.methodLinkNest RX7 109 yX5_faultOfDuration host ∈ qWA := ⟨"TaskLeveller", qWA_in (List.mem_of_getElem? (i := 571) (by decide +kernel)) rfl⟩
theorem lk_X7_123 : ∃ host : String, Cond.methodLinkNest RX7 123 yX5_faultOfRelease host ∈ qWA := ⟨"TaskLeveller", qWA_in (List.mem_of_getElem? (i := 581) (by decide +kernel)) rfl⟩
theorem lk_X7_129 : ∃ host : String, Cond.methodLinkNest RX7 129 yX5_faultOfLimit host ∈ qWA := ⟨"TaskLeveller", qWA_in (List.mem_of_getElem? (i := 589) (by decide +kernel)) rfl⟩
theorem lk_X7_142 : ∃ host : String, Cond.methodLinkNest RX7 142 yX5_takeStarts host ∈ qWA := ⟨"TaskLeveller", qWA_in (List.mem_of_getElem? (i := 667) (by decide +kernel)) rfl⟩
theorem lk_X7_161 : ∃ host : String, Cond.methodLinkNest RX7 161 yX5_reaches host ∈ qWA := ⟨"TaskLeveller", qWA_in (List.mem_of_getElem? (i := 833) (by decide +kernel)) rfl⟩
theorem lk_X7_202 : ∃ host : String, Cond.methodLinkNest RX7 202 yX4_slackOf host ∈ qWA := ⟨"TaskLeveller", qWA_in (List.mem_of_getElem? (i := 914) (by decide +kernel)) rfl⟩
theorem lk_X7_213 : ∃ host : String, Cond.methodLinkNest RX7 213 yX4_usedOn host ∈ qWA := ⟨"TaskLeveller", qWA_in (List.mem_of_getElem? (i := 881) (by decide +kernel)) rfl⟩
theorem lk_X7_225 : ∃ host : String, Cond.methodLinkNest RX7 225 yX5_workOf host ∈ qWA := ⟨"TaskLeveller", qWA_in (List.mem_of_getElem? (i := 1298) (by decide +kernel)) rfl⟩
theorem lk_X7_228 : ∃ host : String, Cond.methodLinkNest RX7 228 yX4_workOnAllDays host ∈ qWA := ⟨"TaskLeveller", qWA_in (List.mem_of_getElem? (i := 1306) (by decide +kernel)) rfl⟩
theorem lk_X7_246 : ∃ host : String, Cond.methodLinkNest RX7 246 yX5_hasStart host ∈ qWA := ⟨"TaskLeveller", qWA_in (List.mem_of_getElem? (i := 893) (by decide +kernel)) rfl⟩
theorem lk_X7_272 : ∃ host : String, Cond.methodLinkNest RX7 272 yX3_clear host ∈ qWA := ⟨"TaskLeveller", qWA_in (List.mem_of_getElem? (i := 1315) (by decide +kernel)) rfl⟩
theorem lk_X7_275 : ∃ host : String, Cond.methodLinkNest RX7 275 yX3_writeNumber host ∈ qWA := ⟨"TaskLeveller", qWA_in (List.mem_of_getElem? (i := 1323) (by decide +kernel)) rfl⟩
theorem lk_X7_278 : ∃ host : String, Cond.methodLinkNest RX7 278 yX3_write host ∈ qWA := ⟨"TaskLeveller", qWA_in (List.mem_of_getElem? (i := 1319) (by decide +kernel)) rfl⟩
theorem lk_X7_319 : ∃ host : String, Cond.methodLinkNest RX7 319 yX5_copyFrom host ∈ qWA := ⟨"TaskLeveller", qWA_in (List.mem_of_getElem? (i := 756) (by decide +kernel)) rfl⟩
theorem lk_X7_351 : ∃ host : String, Cond.methodLinkNest RX7 351 yX2_keep host ∈ qWA := ⟨"TaskLeveller", qWA_in (List.mem_of_getElem? (i := 478) (by decide +kernel)) rfl⟩
theorem lk_X7_354 : ∃ host : String, Cond.methodLinkNest RX7 354 yX4_make host ∈ qWA := ⟨"TaskLeveller", qWA_in (List.mem_of_getElem? (i := 601) (by decide +kernel)) rfl⟩
theorem lk_X7_65 : ∃ host : String, Cond.methodLinkNest RX7 65 yX5_faultOfAdding host ∈ qWA := ⟨"TaskLeveller", qWA_in (List.mem_of_getElem? (i := 403) (by decide +kernel)) rfl⟩
theorem lk_X7_76 : ∃ host : String, Cond.methodLinkNest RX7 76 yX5_append host ∈ qWA := ⟨"TaskLeveller", qWA_in (List.mem_of_getElem? (i := 496) (by decide +kernel)) rfl⟩
theorem lk_X7_80 : ∃ host : String, Cond.methodLinkNest RX7 80 yX5_faultOfTask host ∈ qWA := ⟨"TaskLeveller", qWA_in (List.mem_of_getElem? (i := 507) (by decide +kernel)) rfl⟩
theorem lk_X7_84 : ∃ host : String, Cond.methodLinkNest RX7 84 yX5_drop host ∈ qWA := ⟨"TaskLeveller", qWA_in (List.mem_of_getElem? (i := 511) (by decide +kernel)) rfl⟩
theorem lk_X7_91 : ∃ host : String, Cond.methodLinkNest RX7 91 yX5_faultOfLinking host ∈ qWA := ⟨"TaskLeveller", qWA_in (List.mem_of_getElem? (i := 528) (by decide +kernel)) rfl⟩
theorem lk_X7_95 : ∃ host : String, Cond.methodLinkNest RX7 95 yX5_isLinked host ∈ qWA := ⟨"TaskLeveller", qWA_in (List.mem_of_getElem? (i := 547) (by decide +kernel)) rfl⟩
theorem lk_X7_99 : ∃ host : String, Cond.methodLinkNest RX7 99 yX5_link host ∈ qWA := ⟨"TaskLeveller", qWA_in (List.mem_of_getElem? (i := 551) (by decide +kernel)) rfl⟩
theorem za_int : Cond.arrayClass .int ∈ qWA := qWA_in (List.mem_of_getElem? (i := 153) (by decide +kernel)) rfl
theorem za_boolean : Cond.arrayClass .boolean ∈ qWA := qWA_in (List.mem_of_getElem? (i := 855) (by decide +kernel)) rfl
theorem za_byte : Cond.arrayClass .byte ∈ qWA := qWA_in (List.mem_of_getElem? (i := 388) (by decide +kernel)) rfl
theorem za_char : Cond.arrayClass .char ∈ qWA := qWA_in (List.mem_of_getElem? (i := 244) (by decide +kernel)) rfl
theorem thr_259_261 : qThr 259 261 qARE := ⟨by decide +kernel, qWA_in (List.mem_of_getElem? (i := 1031) (by decide +kernel)) rfl, qWA_in (List.mem_of_getElem? (i := 86) (by decide +kernel)) rfl, fun w h => List.mem_filter.mpr ⟨(by decide +kernel : ∀ w ∈ vx_atS RX7 261 qARE qxn, w ∈ lw_tbl) w h, (by decide +kernel : ∀ w ∈ vx_atS RX7 261 qARE qxn, qok w = true) w h⟩, by decide +kernel⟩
theorem thr_284_288 : qThr 284 288 qIOE := ⟨by decide +kernel, qWA_in (List.mem_of_getElem? (i := 413) (by decide +kernel)) rfl, qWA_in (List.mem_of_getElem? (i := 72) (by decide +kernel)) rfl, fun w h => List.mem_filter.mpr ⟨(by decide +kernel : ∀ w ∈ vx_atS RX7 288 qIOE qxn, w ∈ lw_tbl) w h, (by decide +kernel : ∀ w ∈ vx_atS RX7 288 qIOE qxn, qok w = true) w h⟩, by decide +kernel⟩
theorem thr_297_301 : qThr 297 301 qIAE := ⟨by decide +kernel, qWA_in (List.mem_of_getElem? (i := 426) (by decide +kernel)) rfl, qWA_in (List.mem_of_getElem? (i := 75) (by decide +kernel)) rfl, fun w h => List.mem_filter.mpr ⟨(by decide +kernel : ∀ w ∈ vx_atS RX7 301 qIAE qxn, w ∈ lw_tbl) w h, (by decide +kernel : ∀ w ∈ vx_atS RX7 301 qIAE qxn, qok w = true) w h⟩, by decide +kernel⟩
theorem thr_303_307 : qThr 303 307 qISE := ⟨by decide +kernel, qWA_in (List.mem_of_getElem? (i := 442) (by decide +kernel)) rfl, qWA_in (List.mem_of_getElem? (i := 76) (by decide +kernel)) rfl, fun w h => List.mem_filter.mpr ⟨(by decide +kernel : ∀ w ∈ vx_atS RX7 307 qISE qxn, w ∈ lw_tbl) w h, (by decide +kernel : ∀ w ∈ vx_atS RX7 307 qISE qxn, qok w = true) w h⟩, by decide +kernel⟩
theorem thr_404_408 : qThr 404 408 qUOE := ⟨by decide +kernel, qWA_in (List.mem_of_getElem? (i := 458) (by decide +kernel)) rfl, qWA_in (List.mem_of_getElem? (i := 77) (by decide +kernel)) rfl, fun w h => List.mem_filter.mpr ⟨(by decide +kernel : ∀ w ∈ vx_atS RX7 408 qUOE qxn, w ∈ lw_tbl) w h, (by decide +kernel : ∀ w ∈ vx_atS RX7 408 qUOE qxn, qok w = true) w h⟩, by decide +kernel⟩
theorem cast_IOE : Cond.castable qIOE qIOE ∈ qWA := qWA_in (List.mem_of_getElem? (i := 415) (by decide +kernel)) rfl
theorem ckl_57 : Cond.classLink RL 57 qIOE ∈ qWA := qWA_in (List.mem_of_getElem? (i := 313) (by decide +kernel)) rfl
theorem cast_IAE : Cond.castable qIAE qIAE ∈ qWA := qWA_in (List.mem_of_getElem? (i := 428) (by decide +kernel)) rfl
theorem ckl_59 : Cond.classLink RL 59 qIAE ∈ qWA := qWA_in (List.mem_of_getElem? (i := 393) (by decide +kernel)) rfl
theorem cast_ISE : Cond.castable qISE qISE ∈ qWA := qWA_in (List.mem_of_getElem? (i := 444) (by decide +kernel)) rfl
theorem ckl_61 : Cond.classLink RL 61 qISE ∈ qWA := qWA_in (List.mem_of_getElem? (i := 394) (by decide +kernel)) rfl
theorem cast_UOE : Cond.castable qUOE qUOE ∈ qWA := qWA_in (List.mem_of_getElem? (i := 460) (by decide +kernel)) rfl
theorem ckl_63 : Cond.classLink RL 63 qUOE ∈ qWA := qWA_in (List.mem_of_getElem? (i := 395) (by decide +kernel)) rfl
theorem cast_NSE : Cond.castable qNSE qNSE ∈ qWA := qWA_in (List.mem_of_getElem? (i := 841) (by decide +kernel)) rfl
theorem ckl_118 : Cond.classLink RL 118 qNSE ∈ qWA := qWA_in (List.mem_of_getElem? (i := 825) (by decide +kernel)) rfl
theorem cast_ARE : Cond.castable qARE qARE ∈ qWA := qWA_in (List.mem_of_getElem? (i := 1033) (by decide +kernel)) rfl
theorem lk_X2_33 : Cond.methodLink RX2 33 Lib.Math.min.name ∈ qWA := qWA_in (List.mem_of_getElem? (i := 493) (by decide +kernel)) rfl
theorem lk_X4_117 : Cond.methodLink RX4 117 Lib.Math.min.name ∈ qWA := qWA_in (List.mem_of_getElem? (i := 646) (by decide +kernel)) rfl
theorem lk_X4_98 : Cond.methodLink RX4 98 Lib.Math.max.name ∈ qWA := qWA_in (List.mem_of_getElem? (i := 629) (by decide +kernel)) rfl
theorem lk_X6_58 : Cond.methodLink RX6 58 Lib.Math.max.name ∈ qWA := qWA_in (List.mem_of_getElem? (i := 750) (by decide +kernel)) rfl
theorem lk_X7_220 : Cond.methodLink RX7 220 Lib.Math.max.name ∈ qWA := qWA_in (List.mem_of_getElem? (i := 518) (by decide +kernel)) rfl
theorem lk_X7_250 : Cond.methodLink RX7 250 Lib.Math.abs.name ∈ qWA := qWA_in (List.mem_of_getElem? (i := 907) (by decide +kernel)) rfl
theorem lk_L_130 : Cond.methodLink RL 130 Lib.Math.max.name ∈ qWA := qWA_in (List.mem_of_getElem? (i := 794) (by decide +kernel)) rfl
theorem lk_L_182 : Cond.methodLink RL 182 Lib.Math.min.name ∈ qWA := qWA_in (List.mem_of_getElem? (i := 999) (by decide +kernel)) rfl
theorem lk_L_278 : Cond.methodLink RL 278 Lib.Math.abs.name ∈ qWA := qWA_in (List.mem_of_getElem? (i := 1362) (by decide +kernel)) rfl
theorem lk_J7_304 : Cond.methodLink RJ7 304 Lib.Math.min.name ∈ qWA := qWA_in (List.mem_of_getElem? (i := 1141) (by decide +kernel)) rfl
theorem lk_J8_194 : Cond.methodLink RJ8 194 Lib.Math.max.name ∈ qWA := qWA_in (List.mem_of_getElem? (i := 1125) (by decide +kernel)) rfl
theorem mm_max : Cond.static Lib.Math.max.name ∈ qWA ∧ Cond.initialized "java/lang/Math" ∈ qWA ∧ Cond.code Lib.Math.max.name Lib.Math.max.code 2 (some .int) ∈ qWA := ⟨qWA_in (List.mem_of_getElem? (i := 519) (by decide +kernel)) rfl, qWA_in (List.mem_of_getElem? (i := 78) (by decide +kernel)) rfl, qWA_in (List.mem_of_getElem? (i := 520) (by decide +kernel)) rfl⟩
theorem mm_min : Cond.static Lib.Math.min.name ∈ qWA ∧ Cond.initialized "java/lang/Math" ∈ qWA ∧ Cond.code Lib.Math.min.name Lib.Math.min.code 2 (some .int) ∈ qWA := ⟨qWA_in (List.mem_of_getElem? (i := 494) (by decide +kernel)) rfl, qWA_in (List.mem_of_getElem? (i := 78) (by decide +kernel)) rfl, qWA_in (List.mem_of_getElem? (i := 495) (by decide +kernel)) rfl⟩
theorem mm_abs : Cond.static Lib.Math.abs.name ∈ qWA ∧ Cond.initialized "java/lang/Math" ∈ qWA ∧ Cond.code Lib.Math.abs.name Lib.Math.abs.code 1 (some .int) ∈ qWA := ⟨qWA_in (List.mem_of_getElem? (i := 908) (by decide +kernel)) rfl, qWA_in (List.mem_of_getElem? (i := 78) (by decide +kernel)) rfl, qWA_in (List.mem_of_getElem? (i := 909) (by decide +kernel)) rfl⟩
