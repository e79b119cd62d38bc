theorem tbl_1 {w : Cond} (h : w ∈ tables_1_1) : w ∈ lw_tbl := List.mem_append_right _ (List.mem_append_left _ h)
theorem tbl_2 {w : Cond} (h : w ∈ tables_1_2) : w ∈ lw_tbl := List.mem_append_right _ (List.mem_append_right _ (List.mem_append_left _ h))
theorem tbl_3 {w : Cond} (h : w ∈ tables_1_3) : w ∈ lw_tbl := List.mem_append_right _ (List.mem_append_right _ (List.mem_append_right _ (List.mem_append_left _ h)))
theorem tbl_4 {w : Cond} (h : w ∈ tables_1_4) : w ∈ lw_tbl := List.mem_append_right _ (List.mem_append_right _ (List.mem_append_right _ (List.mem_append_right _ (List.mem_append_left _ h))))
theorem tbl_5 {w : Cond} (h : w ∈ tables_1_5) : w ∈ lw_tbl := List.mem_append_right _ (List.mem_append_right _ (List.mem_append_right _ (List.mem_append_right _ (List.mem_append_right _ (List.mem_append_left _ h)))))
theorem tbl_6 {w : Cond} (h : w ∈ tables_1_6) : w ∈ lw_tbl := List.mem_append_right _ (List.mem_append_right _ (List.mem_append_right _ (List.mem_append_right _ (List.mem_append_right _ (List.mem_append_right _ (h))))))
theorem prv_1 {q : MethodName × Nat} (h : q ∈ lw_privs_1) : Cond.selects q.1.cls q.1 q.1 ∈ lw_tbl := List.mem_append_left _ (List.mem_map.mpr ⟨q, List.mem_append_left _ h, rfl⟩)
theorem prv_2 {q : MethodName × Nat} (h : q ∈ lw_privs_2) : Cond.selects q.1.cls q.1 q.1 ∈ lw_tbl := List.mem_append_left _ (List.mem_map.mpr ⟨q, List.mem_append_right _ (List.mem_append_left _ h), rfl⟩)
theorem prv_3 {q : MethodName × Nat} (h : q ∈ lw_privs_3) : Cond.selects q.1.cls q.1 q.1 ∈ lw_tbl := List.mem_append_left _ (List.mem_map.mpr ⟨q, List.mem_append_right _ (List.mem_append_right _ (List.mem_append_left _ h)), rfl⟩)
theorem prv_4 {q : MethodName × Nat} (h : q ∈ lw_privs_4) : Cond.selects q.1.cls q.1 q.1 ∈ lw_tbl := List.mem_append_left _ (List.mem_map.mpr ⟨q, List.mem_append_right _ (List.mem_append_right _ (List.mem_append_right _ (List.mem_append_left _ h))), rfl⟩)
theorem prv_5 {q : MethodName × Nat} (h : q ∈ lw_privs_5) : Cond.selects q.1.cls q.1 q.1 ∈ lw_tbl := List.mem_append_left _ (List.mem_map.mpr ⟨q, List.mem_append_right _ (List.mem_append_right _ (List.mem_append_right _ (List.mem_append_right _ (List.mem_append_left _ h)))), rfl⟩)
theorem prv_6 {q : MethodName × Nat} (h : q ∈ lw_privs_6) : Cond.selects q.1.cls q.1 q.1 ∈ lw_tbl := List.mem_append_left _ (List.mem_map.mpr ⟨q, List.mem_append_right _ (List.mem_append_right _ (List.mem_append_right _ (List.mem_append_right _ (List.mem_append_right _ (h))))), rfl⟩)
/-- the words that stay: what every method is given -/
def gw : List Cond := lw_tbl.filter goodWord
theorem gw_good {ws : List Cond} (h : ∀ w ∈ ws, w ∈ gw) : GoodIn gw ws := fun w hw => ⟨h w hw, good_of_word (List.mem_filter.mp (h w hw)).2⟩
theorem gw_of {args : Array Value} {s : State} (h : ∀ w ∈ lw_tbl, w.before args s = true) : ∀ w ∈ gw, w.before args s = true := fun w hw => h w (List.mem_filter.mp hw).1
theorem qs_yX3_parse : Cond.selects RX3 yX3_parse yX3_parse ∈ gw := List.mem_filter.mpr ⟨prv_1 (q := (yX3_parse, _)) (List.mem_of_getElem? (i := 0) rfl), rfl⟩
theorem qs_yX3_parseSeats : Cond.selects RX3 yX3_parseSeats yX3_parseSeats ∈ gw := List.mem_filter.mpr ⟨prv_1 (q := (yX3_parseSeats, _)) (List.mem_of_getElem? (i := 1) rfl), rfl⟩
theorem qs_yX3_addSeat : Cond.selects RX3 yX3_addSeat yX3_addSeat ∈ gw := List.mem_filter.mpr ⟨prv_1 (q := (yX3_addSeat, _)) (List.mem_of_getElem? (i := 2) rfl), rfl⟩
theorem qs_yX3_parsePeople : Cond.selects RX3 yX3_parsePeople yX3_parsePeople ∈ gw := List.mem_filter.mpr ⟨prv_1 (q := (yX3_parsePeople, _)) (List.mem_of_getElem? (i := 3) rfl), rfl⟩
theorem qs_yX7_spoilAnswers : Cond.selects RX7 yX7_spoilAnswers yX7_spoilAnswers ∈ gw := List.mem_filter.mpr ⟨prv_1 (q := (yX7_spoilAnswers, _)) (List.mem_of_getElem? (i := 4) rfl), rfl⟩
theorem qs_yX7_isNoSeat : Cond.selects RX7 yX7_isNoSeat yX7_isNoSeat ∈ gw := List.mem_filter.mpr ⟨prv_1 (q := (yX7_isNoSeat, _)) (List.mem_of_getElem? (i := 5) rfl), rfl⟩
theorem qs_yX7_isNobody : Cond.selects RX7 yX7_isNobody yX7_isNobody ∈ gw := List.mem_filter.mpr ⟨prv_1 (q := (yX7_isNobody, _)) (List.mem_of_getElem? (i := 6) rfl), rfl⟩
theorem qs_yX0_clear : Cond.selects RX0 yX0_clear yX0_clear ∈ gw := List.mem_filter.mpr ⟨prv_1 (q := (yX0_clear, _)) (List.mem_of_getElem? (i := 7) rfl), rfl⟩
theorem qs_yX0_goOn : Cond.selects RX0 yX0_goOn yX0_goOn ∈ gw := List.mem_filter.mpr ⟨prv_1 (q := (yX0_goOn, _)) (List.mem_of_getElem? (i := 8) rfl), rfl⟩
theorem qs_yX0_close : Cond.selects RX0 yX0_close yX0_close ∈ gw := List.mem_filter.mpr ⟨prv_1 (q := (yX0_close, _)) (List.mem_of_getElem? (i := 9) rfl), rfl⟩
theorem qs_yX3_nextFree : Cond.selects RX3 yX3_nextFree yX3_nextFree ∈ gw := List.mem_filter.mpr ⟨prv_1 (q := (yX3_nextFree, _)) (List.mem_of_getElem? (i := 10) rfl), rfl⟩
theorem qs_yX0_sitDown : Cond.selects RX0 yX0_sitDown yX0_sitDown ∈ gw := List.mem_filter.mpr ⟨prv_1 (q := (yX0_sitDown, _)) (List.mem_of_getElem? (i := 11) rfl), rfl⟩
theorem qs_yX7_refuseSitting : Cond.selects RX7 yX7_refuseSitting yX7_refuseSitting ∈ gw := List.mem_filter.mpr ⟨prv_1 (q := (yX7_refuseSitting, _)) (List.mem_of_getElem? (i := 12) rfl), rfl⟩
theorem qs_yX7_refuseSheet : Cond.selects RX7 yX7_refuseSheet yX7_refuseSheet ∈ gw := List.mem_filter.mpr ⟨prv_1 (q := (yX7_refuseSheet, _)) (List.mem_of_getElem? (i := 13) rfl), rfl⟩
theorem qs_yX7_find : Cond.selects RX7 yX7_find yX7_find ∈ gw := List.mem_filter.mpr ⟨prv_1 (q := (yX7_find, _)) (List.mem_of_getElem? (i := 14) rfl), rfl⟩
theorem qs_yX3_isIn : Cond.selects RX3 yX3_isIn yX3_isIn ∈ gw := List.mem_filter.mpr ⟨prv_1 (q := (yX3_isIn, _)) (List.mem_of_getElem? (i := 15) rfl), rfl⟩
theorem qs_yX1_letIn : Cond.selects RX1 yX1_letIn yX1_letIn ∈ gw := List.mem_filter.mpr ⟨prv_2 (q := (yX1_letIn, _)) (List.mem_of_getElem? (i := 0) rfl), rfl⟩
theorem qs_yX1_keep : Cond.selects RX1 yX1_keep yX1_keep ∈ gw := List.mem_filter.mpr ⟨prv_2 (q := (yX1_keep, _)) (List.mem_of_getElem? (i := 1) rfl), rfl⟩
theorem qs_yX1_leastToCome : Cond.selects RX1 yX1_leastToCome yX1_leastToCome ∈ gw := List.mem_filter.mpr ⟨prv_2 (q := (yX1_leastToCome, _)) (List.mem_of_getElem? (i := 2) rfl), rfl⟩
theorem qs_yX1_wrongAmong : Cond.selects RX1 yX1_wrongAmong yX1_wrongAmong ∈ gw := List.mem_filter.mpr ⟨prv_2 (q := (yX1_wrongAmong, _)) (List.mem_of_getElem? (i := 3) rfl), rfl⟩
theorem qs_yX1_onlyLostOutside : Cond.selects RX1 yX1_onlyLostOutside yX1_onlyLostOutside ∈ gw := List.mem_filter.mpr ⟨prv_2 (q := (yX1_onlyLostOutside, _)) (List.mem_of_getElem? (i := 4) rfl), rfl⟩
theorem qs_yX1_letInLost : Cond.selects RX1 yX1_letInLost yX1_letInLost ∈ gw := List.mem_filter.mpr ⟨prv_2 (q := (yX1_letInLost, _)) (List.mem_of_getElem? (i := 5) rfl), rfl⟩
theorem qs_yX1_wrongNext : Cond.selects RX1 yX1_wrongNext yX1_wrongNext ∈ gw := List.mem_filter.mpr ⟨prv_2 (q := (yX1_wrongNext, _)) (List.mem_of_getElem? (i := 6) rfl), rfl⟩
theorem qs_yX1_hasTwinOutside : Cond.selects RX1 yX1_hasTwinOutside yX1_hasTwinOutside ∈ gw := List.mem_filter.mpr ⟨prv_2 (q := (yX1_hasTwinOutside, _)) (List.mem_of_getElem? (i := 7) rfl), rfl⟩
theorem qs_yX1_seatNext : Cond.selects RX1 yX1_seatNext yX1_seatNext ∈ gw := List.mem_filter.mpr ⟨prv_2 (q := (yX1_seatNext, _)) (List.mem_of_getElem? (i := 8) rfl), rfl⟩
theorem qs_yX1_clearSets : Cond.selects RX1 yX1_clearSets yX1_clearSets ∈ gw := List.mem_filter.mpr ⟨prv_2 (q := (yX1_clearSets, _)) (List.mem_of_getElem? (i := 9) rfl), rfl⟩
theorem qs_yX1_copyTaken : Cond.selects RX1 yX1_copyTaken yX1_copyTaken ∈ gw := List.mem_filter.mpr ⟨prv_2 (q := (yX1_copyTaken, _)) (List.mem_of_getElem? (i := 10) rfl), rfl⟩
theorem qs_yX1_spread : Cond.selects RX1 yX1_spread yX1_spread ∈ gw := List.mem_filter.mpr ⟨prv_2 (q := (yX1_spread, _)) (List.mem_of_getElem? (i := 11) rfl), rfl⟩
theorem qs_yX4_isWhole : Cond.selects RX4 yX4_isWhole yX4_isWhole ∈ gw := List.mem_filter.mpr ⟨prv_2 (q := (yX4_isWhole, _)) (List.mem_of_getElem? (i := 12) rfl), rfl⟩
theorem qs_yX4_countRings : Cond.selects RX4 yX4_countRings yX4_countRings ∈ gw := List.mem_filter.mpr ⟨prv_2 (q := (yX4_countRings, _)) (List.mem_of_getElem? (i := 13) rfl), rfl⟩
theorem qs_yX6_narrow : Cond.selects RX6 yX6_narrow yX6_narrow ∈ gw := List.mem_filter.mpr ⟨prv_2 (q := (yX6_narrow, _)) (List.mem_of_getElem? (i := 14) rfl), rfl⟩
theorem qs_yX6_forbid : Cond.selects RX6 yX6_forbid yX6_forbid ∈ gw := List.mem_filter.mpr ⟨prv_2 (q := (yX6_forbid, _)) (List.mem_of_getElem? (i := 15) rfl), rfl⟩
theorem qs_yX6_suspect : Cond.selects RX6 yX6_suspect yX6_suspect ∈ gw := List.mem_filter.mpr ⟨prv_3 (q := (yX6_suspect, _)) (List.mem_of_getElem? (i := 0) rfl), rfl⟩
theorem qs_yX6_walkForward : Cond.selects RX6 yX6_walkForward yX6_walkForward ∈ gw := List.mem_filter.mpr ⟨prv_3 (q := (yX6_walkForward, _)) (List.mem_of_getElem? (i := 1) rfl), rfl⟩
theorem qs_yX6_spread : Cond.selects RX6 yX6_spread yX6_spread ∈ gw := List.mem_filter.mpr ⟨prv_3 (q := (yX6_spread, _)) (List.mem_of_getElem? (i := 2) rfl), rfl⟩
theorem qs_yX6_weightAtLast : Cond.selects RX6 yX6_weightAtLast yX6_weightAtLast ∈ gw := List.mem_filter.mpr ⟨prv_3 (q := (yX6_weightAtLast, _)) (List.mem_of_getElem? (i := 3) rfl), rfl⟩
theorem qs_yX6_walkBackward : Cond.selects RX6 yX6_walkBackward yX6_walkBackward ∈ gw := List.mem_filter.mpr ⟨prv_3 (q := (yX6_walkBackward, _)) (List.mem_of_getElem? (i := 4) rfl), rfl⟩
theorem qs_yX6_waysOn : Cond.selects RX6 yX6_waysOn yX6_waysOn ∈ gw := List.mem_filter.mpr ⟨prv_3 (q := (yX6_waysOn, _)) (List.mem_of_getElem? (i := 5) rfl), rfl⟩
theorem qs_yX6_wasSeen : Cond.selects RX6 yX6_wasSeen yX6_wasSeen ∈ gw := List.mem_filter.mpr ⟨prv_3 (q := (yX6_wasSeen, _)) (List.mem_of_getElem? (i := 6) rfl), rfl⟩
theorem qs_yX2_place : Cond.selects RX2 yX2_place yX2_place ∈ gw := List.mem_filter.mpr ⟨prv_3 (q := (yX2_place, _)) (List.mem_of_getElem? (i := 7) rfl), rfl⟩
theorem qs_yX2_lot : Cond.selects RX2 yX2_lot yX2_lot ∈ gw := List.mem_filter.mpr ⟨prv_3 (q := (yX2_lot, _)) (List.mem_of_getElem? (i := 8) rfl), rfl⟩
theorem qs_yX2_member : Cond.selects RX2 yX2_member yX2_member ∈ gw := List.mem_filter.mpr ⟨prv_3 (q := (yX2_member, _)) (List.mem_of_getElem? (i := 9) rfl), rfl⟩
theorem qs_yX7_refuseItem : Cond.selects RX7 yX7_refuseItem yX7_refuseItem ∈ gw := List.mem_filter.mpr ⟨prv_3 (q := (yX7_refuseItem, _)) (List.mem_of_getElem? (i := 10) rfl), rfl⟩
theorem qs_yX7_mixSeats : Cond.selects RX7 yX7_mixSeats yX7_mixSeats ∈ gw := List.mem_filter.mpr ⟨prv_3 (q := (yX7_mixSeats, _)) (List.mem_of_getElem? (i := 11) rfl), rfl⟩
theorem qs_yX7_mixPeople : Cond.selects RX7 yX7_mixPeople yX7_mixPeople ∈ gw := List.mem_filter.mpr ⟨prv_3 (q := (yX7_mixPeople, _)) (List.mem_of_getElem? (i := 12) rfl), rfl⟩
theorem qs_yX8_met : Cond.selects RX8 yX8_met yX8_met ∈ gw := List.mem_filter.mpr ⟨prv_3 (q := (yX8_met, _)) (List.mem_of_getElem? (i := 13) rfl), rfl⟩
theorem qs_yX8_lacks : Cond.selects RX8 yX8_lacks yX8_lacks ∈ gw := List.mem_filter.mpr ⟨prv_3 (q := (yX8_lacks, _)) (List.mem_of_getElem? (i := 14) rfl), rfl⟩
theorem qs_yX8_faultOf : Cond.selects RX8 yX8_faultOf yX8_faultOf ∈ gw := List.mem_filter.mpr ⟨prv_3 (q := (yX8_faultOf, _)) (List.mem_of_getElem? (i := 15) rfl), rfl⟩
theorem qs_yX8_readsSeats : Cond.selects RX8 yX8_readsSeats yX8_readsSeats ∈ gw := List.mem_filter.mpr ⟨prv_4 (q := (yX8_readsSeats, _)) (List.mem_of_getElem? (i := 0) rfl), rfl⟩
theorem qs_yX8_here : Cond.selects RX8 yX8_here yX8_here ∈ gw := List.mem_filter.mpr ⟨prv_4 (q := (yX8_here, _)) (List.mem_of_getElem? (i := 1) rfl), rfl⟩
theorem qs_yX8_noSeats : Cond.selects RX8 yX8_noSeats yX8_noSeats ∈ gw := List.mem_filter.mpr ⟨prv_4 (q := (yX8_noSeats, _)) (List.mem_of_getElem? (i := 2) rfl), rfl⟩
theorem qs_yX8_readsPeople : Cond.selects RX8 yX8_readsPeople yX8_readsPeople ∈ gw := List.mem_filter.mpr ⟨prv_4 (q := (yX8_readsPeople, _)) (List.mem_of_getElem? (i := 3) rfl), rfl⟩
theorem qs_yX8_nobody : Cond.selects RX8 yX8_nobody yX8_nobody ∈ gw := List.mem_filter.mpr ⟨prv_4 (q := (yX8_nobody, _)) (List.mem_of_getElem? (i := 4) rfl), rfl⟩
theorem qs_yX8_isSeat : Cond.selects RX8 yX8_isSeat yX8_isSeat ∈ gw := List.mem_filter.mpr ⟨prv_4 (q := (yX8_isSeat, _)) (List.mem_of_getElem? (i := 5) rfl), rfl⟩
theorem qs_yX8_find : Cond.selects RX8 yX8_find yX8_find ∈ gw := List.mem_filter.mpr ⟨prv_4 (q := (yX8_find, _)) (List.mem_of_getElem? (i := 6) rfl), rfl⟩
theorem qs_yX8_seatOf : Cond.selects RX8 yX8_seatOf yX8_seatOf ∈ gw := List.mem_filter.mpr ⟨prv_4 (q := (yX8_seatOf, _)) (List.mem_of_getElem? (i := 7) rfl), rfl⟩
theorem qs_yX8_ownersOf : Cond.selects RX8 yX8_ownersOf yX8_ownersOf ∈ gw := List.mem_filter.mpr ⟨prv_4 (q := (yX8_ownersOf, _)) (List.mem_of_getElem? (i := 8) rfl), rfl⟩
theorem qs_yX8_isPerson : Cond.selects RX8 yX8_isPerson yX8_isPerson ∈ gw := List.mem_filter.mpr ⟨prv_4 (q := (yX8_isPerson, _)) (List.mem_of_getElem? (i := 9) rfl), rfl⟩
theorem qs_yX8_likelyOf : Cond.selects RX8 yX8_likelyOf yX8_likelyOf ∈ gw := List.mem_filter.mpr ⟨prv_4 (q := (yX8_likelyOf, _)) (List.mem_of_getElem? (i := 10) rfl), rfl⟩
theorem qs_yX8_firstSit : Cond.selects RX8 yX8_firstSit yX8_firstSit ∈ gw := List.mem_filter.mpr ⟨prv_4 (q := (yX8_firstSit, _)) (List.mem_of_getElem? (i := 11) rfl), rfl⟩
theorem qs_yX8_noBounds : Cond.selects RX8 yX8_noBounds yX8_noBounds ∈ gw := List.mem_filter.mpr ⟨prv_4 (q := (yX8_noBounds, _)) (List.mem_of_getElem? (i := 12) rfl), rfl⟩
theorem qs_yX8_begins : Cond.selects RX8 yX8_begins yX8_begins ∈ gw := List.mem_filter.mpr ⟨prv_4 (q := (yX8_begins, _)) (List.mem_of_getElem? (i := 13) rfl), rfl⟩
theorem qs_yX8_sits : Cond.selects RX8 yX8_sits yX8_sits ∈ gw := List.mem_filter.mpr ⟨prv_4 (q := (yX8_sits, _)) (List.mem_of_getElem? (i := 14) rfl), rfl⟩
theorem qs_yX8_whole : Cond.selects RX8 yX8_whole yX8_whole ∈ gw := List.mem_filter.mpr ⟨prv_4 (q := (yX8_whole, _)) (List.mem_of_getElem? (i := 15) rfl), rfl⟩
theorem qs_yX8_kindNow : Cond.selects RX8 yX8_kindNow yX8_kindNow ∈ gw := List.mem_filter.mpr ⟨prv_5 (q := (yX8_kindNow, _)) (List.mem_of_getElem? (i := 0) rfl), rfl⟩
theorem qs_yX8_choices : Cond.selects RX8 yX8_choices yX8_choices ∈ gw := List.mem_filter.mpr ⟨prv_5 (q := (yX8_choices, _)) (List.mem_of_getElem? (i := 1) rfl), rfl⟩
theorem qs_yX8_nextFree : Cond.selects RX8 yX8_nextFree yX8_nextFree ∈ gw := List.mem_filter.mpr ⟨prv_5 (q := (yX8_nextFree, _)) (List.mem_of_getElem? (i := 2) rfl), rfl⟩
theorem qs_yX8_ofSort : Cond.selects RX8 yX8_ofSort yX8_ofSort ∈ gw := List.mem_filter.mpr ⟨prv_5 (q := (yX8_ofSort, _)) (List.mem_of_getElem? (i := 3) rfl), rfl⟩
theorem qs_yX8_mayBe : Cond.selects RX8 yX8_mayBe yX8_mayBe ∈ gw := List.mem_filter.mpr ⟨prv_5 (q := (yX8_mayBe, _)) (List.mem_of_getElem? (i := 4) rfl), rfl⟩
theorem qs_yX8_nextOn : Cond.selects RX8 yX8_nextOn yX8_nextOn ∈ gw := List.mem_filter.mpr ⟨prv_5 (q := (yX8_nextOn, _)) (List.mem_of_getElem? (i := 5) rfl), rfl⟩
theorem qs_yX8_takenOf : Cond.selects RX8 yX8_takenOf yX8_takenOf ∈ gw := List.mem_filter.mpr ⟨prv_5 (q := (yX8_takenOf, _)) (List.mem_of_getElem? (i := 6) rfl), rfl⟩
theorem qs_yX8_meanOf : Cond.selects RX8 yX8_meanOf yX8_meanOf ∈ gw := List.mem_filter.mpr ⟨prv_5 (q := (yX8_meanOf, _)) (List.mem_of_getElem? (i := 7) rfl), rfl⟩
theorem qs_yX8_asTheyCome : Cond.selects RX8 yX8_asTheyCome yX8_asTheyCome ∈ gw := List.mem_filter.mpr ⟨prv_5 (q := (yX8_asTheyCome, _)) (List.mem_of_getElem? (i := 8) rfl), rfl⟩
theorem qs_yX8_rightByOrder : Cond.selects RX8 yX8_rightByOrder yX8_rightByOrder ∈ gw := List.mem_filter.mpr ⟨prv_5 (q := (yX8_rightByOrder, _)) (List.mem_of_getElem? (i := 9) rfl), rfl⟩
theorem qs_yX8_justOf : Cond.selects RX8 yX8_justOf yX8_justOf ∈ gw := List.mem_filter.mpr ⟨prv_5 (q := (yX8_justOf, _)) (List.mem_of_getElem? (i := 10) rfl), rfl⟩
theorem qs_yX8_leftOf : Cond.selects RX8 yX8_leftOf yX8_leftOf ∈ gw := List.mem_filter.mpr ⟨prv_5 (q := (yX8_leftOf, _)) (List.mem_of_getElem? (i := 11) rfl), rfl⟩
theorem qs_yX8_looksNow : Cond.selects RX8 yX8_looksNow yX8_looksNow ∈ gw := List.mem_filter.mpr ⟨prv_5 (q := (yX8_looksNow, _)) (List.mem_of_getElem? (i := 12) rfl), rfl⟩
theorem qs_yX8_noSitting : Cond.selects RX8 yX8_noSitting yX8_noSitting ∈ gw := List.mem_filter.mpr ⟨prv_5 (q := (yX8_noSitting, _)) (List.mem_of_getElem? (i := 13) rfl), rfl⟩
theorem qs_yX8_isSeatNow : Cond.selects RX8 yX8_isSeatNow yX8_isSeatNow ∈ gw := List.mem_filter.mpr ⟨prv_5 (q := (yX8_isSeatNow, _)) (List.mem_of_getElem? (i := 14) rfl), rfl⟩
theorem qs_yX8_sittingOf : Cond.selects RX8 yX8_sittingOf yX8_sittingOf ∈ gw := List.mem_filter.mpr ⟨prv_5 (q := (yX8_sittingOf, _)) (List.mem_of_getElem? (i := 15) rfl), rfl⟩
theorem qs_yX8_findOrder : Cond.selects RX8 yX8_findOrder yX8_findOrder ∈ gw := List.mem_filter.mpr ⟨prv_6 (q := (yX8_findOrder, _)) (List.mem_of_getElem? (i := 0) rfl), rfl⟩
theorem qs_yX8_goesOn : Cond.selects RX8 yX8_goesOn yX8_goesOn ∈ gw := List.mem_filter.mpr ⟨prv_6 (q := (yX8_goesOn, _)) (List.mem_of_getElem? (i := 1) rfl), rfl⟩
theorem qs_yX8_swaps : Cond.selects RX8 yX8_swaps yX8_swaps ∈ gw := List.mem_filter.mpr ⟨prv_6 (q := (yX8_swaps, _)) (List.mem_of_getElem? (i := 2) rfl), rfl⟩
theorem qs_yX8_bestOf : Cond.selects RX8 yX8_bestOf yX8_bestOf ∈ gw := List.mem_filter.mpr ⟨prv_6 (q := (yX8_bestOf, _)) (List.mem_of_getElem? (i := 3) rfl), rfl⟩
theorem qs_yX8_findRings : Cond.selects RX8 yX8_findRings yX8_findRings ∈ gw := List.mem_filter.mpr ⟨prv_6 (q := (yX8_findRings, _)) (List.mem_of_getElem? (i := 4) rfl), rfl⟩
theorem qs_yX8_sitter : Cond.selects RX8 yX8_sitter yX8_sitter ∈ gw := List.mem_filter.mpr ⟨prv_6 (q := (yX8_sitter, _)) (List.mem_of_getElem? (i := 5) rfl), rfl⟩
theorem qs_yX8_losersNow : Cond.selects RX8 yX8_losersNow yX8_losersNow ∈ gw := List.mem_filter.mpr ⟨prv_6 (q := (yX8_losersNow, _)) (List.mem_of_getElem? (i := 6) rfl), rfl⟩
theorem qs_yX8_seenWith : Cond.selects RX8 yX8_seenWith yX8_seenWith ∈ gw := List.mem_filter.mpr ⟨prv_6 (q := (yX8_seenWith, _)) (List.mem_of_getElem? (i := 7) rfl), rfl⟩
theorem qs_yX8_laysBounds : Cond.selects RX8 yX8_laysBounds yX8_laysBounds ∈ gw := List.mem_filter.mpr ⟨prv_6 (q := (yX8_laysBounds, _)) (List.mem_of_getElem? (i := 8) rfl), rfl⟩
theorem qs_yX8_likeliestNow : Cond.selects RX8 yX8_likeliestNow yX8_likeliestNow ∈ gw := List.mem_filter.mpr ⟨prv_6 (q := (yX8_likeliestNow, _)) (List.mem_of_getElem? (i := 9) rfl), rfl⟩
theorem qs_yX8_askNow : Cond.selects RX8 yX8_askNow yX8_askNow ∈ gw := List.mem_filter.mpr ⟨prv_6 (q := (yX8_askNow, _)) (List.mem_of_getElem? (i := 10) rfl), rfl⟩
theorem qs_yX8_wasSeen : Cond.selects RX8 yX8_wasSeen yX8_wasSeen ∈ gw := List.mem_filter.mpr ⟨prv_6 (q := (yX8_wasSeen, _)) (List.mem_of_getElem? (i := 11) rfl), rfl⟩
theorem qs_yX8_worstBy : Cond.selects RX8 yX8_worstBy yX8_worstBy ∈ gw := List.mem_filter.mpr ⟨prv_6 (q := (yX8_worstBy, _)) (List.mem_of_getElem? (i := 12) rfl), rfl⟩
theorem qs_yX8_eveningOf : Cond.selects RX8 yX8_eveningOf yX8_eveningOf ∈ gw := List.mem_filter.mpr ⟨prv_6 (q := (yX8_eveningOf, _)) (List.mem_of_getElem? (i := 13) rfl), rfl⟩
theorem qs_yX8_findEvening : Cond.selects RX8 yX8_findEvening yX8_findEvening ∈ gw := List.mem_filter.mpr ⟨prv_6 (q := (yX8_findEvening, _)) (List.mem_of_getElem? (i := 14) rfl), rfl⟩
theorem qs_yX8_lot : Cond.selects RX8 yX8_lot yX8_lot ∈ gw := List.mem_filter.mpr ⟨prv_6 (q := (yX8_lot, _)) (List.mem_of_getElem? (i := 15) rfl), rfl⟩
theorem q_1_0 : Cond.initialized RL ∈ gw := List.mem_filter.mpr ⟨tbl_1 (List.mem_of_getElem? (i := 0) rfl), rfl⟩
theorem q_1_1 : Cond.initialized RX7 ∈ gw := List.mem_filter.mpr ⟨tbl_1 (List.mem_of_getElem? (i := 1) rfl), rfl⟩
theorem q_1_2 : Cond.initialized RX3 ∈ gw := List.mem_filter.mpr ⟨tbl_1 (List.mem_of_getElem? (i := 2) rfl), rfl⟩
theorem q_1_3 : Cond.initialized RJ7 ∈ gw := List.mem_filter.mpr ⟨tbl_1 (List.mem_of_getElem? (i := 3) rfl), rfl⟩
theorem q_1_4 : Cond.initialized RX0 ∈ gw := List.mem_filter.mpr ⟨tbl_1 (List.mem_of_getElem? (i := 4) rfl), rfl⟩
theorem q_1_5 : Cond.initialized RX1 ∈ gw := List.mem_filter.mpr ⟨tbl_1 (List.mem_of_getElem? (i := 5) rfl), rfl⟩
theorem q_1_6 : Cond.initialized RX6 ∈ gw := List.mem_filter.mpr ⟨tbl_1 (List.mem_of_getElem? (i := 6) rfl), rfl⟩
theorem q_1_7 : Cond.initialized RX2 ∈ gw := List.mem_filter.mpr ⟨tbl_1 (List.mem_of_getElem? (i := 7) rfl), rfl⟩
theorem q_1_8 : Cond.initialized RX4 ∈ gw := List.mem_filter.mpr ⟨tbl_1 (List.mem_of_getElem? (i := 8) rfl), rfl⟩
theorem q_1_9 : Cond.initialized RX5 ∈ gw := List.mem_filter.mpr ⟨tbl_1 (List.mem_of_getElem? (i := 9) rfl), rfl⟩
theorem q_1_10 : Cond.initialized RX8 ∈ gw := List.mem_filter.mpr ⟨tbl_1 (List.mem_of_getElem? (i := 10) rfl), rfl⟩
theorem q_1_11 : Cond.initialized RJ6 ∈ gw := List.mem_filter.mpr ⟨tbl_1 (List.mem_of_getElem? (i := 11) rfl), rfl⟩
theorem q_1_12 : Cond.initialized RJ10 ∈ gw := List.mem_filter.mpr ⟨tbl_1 (List.mem_of_getElem? (i := 12) rfl), rfl⟩
theorem q_1_13 : Cond.initialized RJ9 ∈ gw := List.mem_filter.mpr ⟨tbl_1 (List.mem_of_getElem? (i := 13) rfl), rfl⟩
theorem q_1_14 : Cond.classLink RL 7 "LostTicket" ∈ gw := List.mem_filter.mpr ⟨tbl_1 (List.mem_of_getElem? (i := 14) rfl), rfl⟩
theorem q_1_15 : Cond.instantiable RX7 8 ∈ gw := List.mem_filter.mpr ⟨tbl_1 (List.mem_of_getElem? (i := 15) rfl), rfl⟩
theorem q_1_16 : Cond.methodLink RL 9 yX7_init ∈ gw := List.mem_filter.mpr ⟨tbl_1 (List.mem_of_getElem? (i := 16) rfl), rfl⟩
theorem q_1_17 : Cond.instanceMethod yX7_init ∈ gw := List.mem_filter.mpr ⟨tbl_1 (List.mem_of_getElem? (i := 17) rfl), rfl⟩
theorem q_1_18 : Cond.code yX7_init prog_1_method_1_code 2 none ∈ gw := List.mem_filter.mpr ⟨tbl_1 (List.mem_of_getElem? (i := 18) rfl), rfl⟩
theorem q_1_19 : Cond.methodLink RX7 3 objectInit ∈ gw := List.mem_filter.mpr ⟨tbl_1 (List.mem_of_getElem? (i := 19) rfl), rfl⟩
theorem q_1_20 : Cond.instanceMethod objectInit ∈ gw := List.mem_filter.mpr ⟨tbl_1 (List.mem_of_getElem? (i := 20) rfl), rfl⟩
theorem q_1_21 : Cond.code objectInit object_method_1_code 1 none ∈ gw := List.mem_filter.mpr ⟨tbl_1 (List.mem_of_getElem? (i := 21) rfl), rfl⟩
theorem q_1_22 : Cond.classLink RX7 9 "LostTicket$House" ∈ gw := List.mem_filter.mpr ⟨tbl_1 (List.mem_of_getElem? (i := 22) rfl), rfl⟩
theorem q_1_23 : Cond.instantiable RX3 11 ∈ gw := List.mem_filter.mpr ⟨tbl_1 (List.mem_of_getElem? (i := 23) rfl), rfl⟩
theorem q_1_24 : Cond.methodLink RX7 11 yX3_init ∈ gw := List.mem_filter.mpr ⟨tbl_1 (List.mem_of_getElem? (i := 24) rfl), rfl⟩
theorem q_1_25 : Cond.instanceMethod yX3_init ∈ gw := List.mem_filter.mpr ⟨tbl_1 (List.mem_of_getElem? (i := 25) rfl), rfl⟩
theorem q_1_26 : Cond.code yX3_init prog_5_method_1_code 1 none ∈ gw := List.mem_filter.mpr ⟨tbl_1 (List.mem_of_getElem? (i := 26) rfl), rfl⟩
theorem q_1_27 : Cond.methodLink RX3 3 objectInit ∈ gw := List.mem_filter.mpr ⟨tbl_1 (List.mem_of_getElem? (i := 27) rfl), rfl⟩
theorem q_1_28 : Cond.classLink RX3 9 "[[I" ∈ gw := List.mem_filter.mpr ⟨tbl_1 (List.mem_of_getElem? (i := 28) rfl), rfl⟩
theorem q_1_30 : Cond.methodLink RX3 38 yX3_parse ∈ gw := List.mem_filter.mpr ⟨tbl_1 (List.mem_of_getElem? (i := 30) rfl), rfl⟩
theorem q_1_32 : Cond.instanceMethod yX3_parse ∈ gw := List.mem_filter.mpr ⟨tbl_1 (List.mem_of_getElem? (i := 32) rfl), rfl⟩
theorem q_1_33 : Cond.code yX3_parse prog_5_method_4_code 1 none ∈ gw := List.mem_filter.mpr ⟨tbl_1 (List.mem_of_getElem? (i := 33) rfl), rfl⟩
theorem q_1_34 : Cond.methodLink RX3 41 yX3_parseSeats ∈ gw := List.mem_filter.mpr ⟨tbl_1 (List.mem_of_getElem? (i := 34) rfl), rfl⟩
theorem q_1_36 : Cond.instanceMethod yX3_parseSeats ∈ gw := List.mem_filter.mpr ⟨tbl_1 (List.mem_of_getElem? (i := 36) rfl), rfl⟩
theorem q_1_37 : Cond.code yX3_parseSeats prog_5_method_5_code 5 none ∈ gw := List.mem_filter.mpr ⟨tbl_1 (List.mem_of_getElem? (i := 37) rfl), rfl⟩
theorem q_1_38 : Cond.methodLink RX3 54 yX3_sortOf ∈ gw := List.mem_filter.mpr ⟨tbl_1 (List.mem_of_getElem? (i := 38) rfl), rfl⟩
theorem q_1_39 : Cond.static yX3_sortOf ∈ gw := List.mem_filter.mpr ⟨tbl_1 (List.mem_of_getElem? (i := 39) rfl), rfl⟩
theorem q_1_40 : Cond.code yX3_sortOf prog_5_method_8_code 1 (some .int) ∈ gw := List.mem_filter.mpr ⟨tbl_1 (List.mem_of_getElem? (i := 40) rfl), rfl⟩
theorem q_1_41 : Cond.methodLink RX3 58 yX3_addSeat ∈ gw := List.mem_filter.mpr ⟨tbl_1 (List.mem_of_getElem? (i := 41) rfl), rfl⟩
theorem q_1_43 : Cond.instanceMethod yX3_addSeat ∈ gw := List.mem_filter.mpr ⟨tbl_1 (List.mem_of_getElem? (i := 43) rfl), rfl⟩
theorem q_1_44 : Cond.code yX3_addSeat prog_5_method_6_code 2 none ∈ gw := List.mem_filter.mpr ⟨tbl_1 (List.mem_of_getElem? (i := 44) rfl), rfl⟩
theorem q_1_45 : Cond.methodLink RX3 62 yJ7_fill_53178 ∈ gw := List.mem_filter.mpr ⟨tbl_1 (List.mem_of_getElem? (i := 45) rfl), rfl⟩
theorem q_1_46 : Cond.static yJ7_fill_53178 ∈ gw := List.mem_filter.mpr ⟨tbl_1 (List.mem_of_getElem? (i := 46) rfl), rfl⟩
theorem q_1_47 : Cond.code yJ7_fill_53178 prog_14_method_103_code 4 none ∈ gw := List.mem_filter.mpr ⟨tbl_1 (List.mem_of_getElem? (i := 47) rfl), rfl⟩
theorem q_1_48 : Cond.methodLink RX3 44 yX3_parsePeople ∈ gw := List.mem_filter.mpr ⟨tbl_1 (List.mem_of_getElem? (i := 48) rfl), rfl⟩
theorem q_1_50 : Cond.instanceMethod yX3_parsePeople ∈ gw := List.mem_filter.mpr ⟨tbl_1 (List.mem_of_getElem? (i := 50) rfl), rfl⟩
theorem q_1_51 : Cond.code yX3_parsePeople prog_5_method_7_code 5 none ∈ gw := List.mem_filter.mpr ⟨tbl_1 (List.mem_of_getElem? (i := 51) rfl), rfl⟩
theorem q_1_52 : Cond.methodLink RX3 71 yX3_kindOf ∈ gw := List.mem_filter.mpr ⟨tbl_1 (List.mem_of_getElem? (i := 52) rfl), rfl⟩
theorem q_1_53 : Cond.static yX3_kindOf ∈ gw := List.mem_filter.mpr ⟨tbl_1 (List.mem_of_getElem? (i := 53) rfl), rfl⟩
theorem q_1_54 : Cond.code yX3_kindOf prog_5_method_9_code 1 (some .int) ∈ gw := List.mem_filter.mpr ⟨tbl_1 (List.mem_of_getElem? (i := 54) rfl), rfl⟩
theorem q_1_55 : Cond.fieldLink RX3 11 "LostTicket$House" "bytes" "[[I" ∈ gw := List.mem_filter.mpr ⟨tbl_1 (List.mem_of_getElem? (i := 55) rfl), rfl⟩
theorem q_1_56 : Cond.fieldLink RX3 16 "LostTicket$House" "lengths" "[I" ∈ gw := List.mem_filter.mpr ⟨tbl_1 (List.mem_of_getElem? (i := 56) rfl), rfl⟩
theorem q_1_57 : Cond.fieldLink RX7 68 "LostTicket$House" "lengths" "[I" ∈ gw := List.mem_filter.mpr ⟨tbl_1 (List.mem_of_getElem? (i := 57) rfl), rfl⟩
theorem q_1_58 : Cond.fieldLink RX3 20 "LostTicket$House" "faults" "[I" ∈ gw := List.mem_filter.mpr ⟨tbl_1 (List.mem_of_getElem? (i := 58) rfl), rfl⟩
theorem q_1_59 : Cond.fieldLink RX7 83 "LostTicket$House" "faults" "[I" ∈ gw := List.mem_filter.mpr ⟨tbl_1 (List.mem_of_getElem? (i := 59) rfl), rfl⟩
theorem q_1_60 : Cond.fieldLink RX3 23 "LostTicket$House" "sorts" "[I" ∈ gw := List.mem_filter.mpr ⟨tbl_1 (List.mem_of_getElem? (i := 60) rfl), rfl⟩
theorem q_1_61 : Cond.fieldLink RX7 89 "LostTicket$House" "sorts" "[I" ∈ gw := List.mem_filter.mpr ⟨tbl_1 (List.mem_of_getElem? (i := 61) rfl), rfl⟩
theorem q_1_62 : Cond.fieldLink RX3 26 "LostTicket$House" "rowOf" "[I" ∈ gw := List.mem_filter.mpr ⟨tbl_1 (List.mem_of_getElem? (i := 62) rfl), rfl⟩
theorem q_1_63 : Cond.fieldLink RX7 92 "LostTicket$House" "rowOf" "[I" ∈ gw := List.mem_filter.mpr ⟨tbl_1 (List.mem_of_getElem? (i := 63) rfl), rfl⟩
theorem q_1_64 : Cond.fieldLink RX3 29 "LostTicket$House" "bySort" "[I" ∈ gw := List.mem_filter.mpr ⟨tbl_1 (List.mem_of_getElem? (i := 64) rfl), rfl⟩
theorem q_1_65 : Cond.fieldLink RX3 32 "LostTicket$House" "owns" "[I" ∈ gw := List.mem_filter.mpr ⟨tbl_1 (List.mem_of_getElem? (i := 65) rfl), rfl⟩
theorem q_1_66 : Cond.fieldLink RX4 29 "LostTicket$House" "owns" "[I" ∈ gw := List.mem_filter.mpr ⟨tbl_1 (List.mem_of_getElem? (i := 66) rfl), rfl⟩
theorem q_1_67 : Cond.fieldLink RX2 31 "LostTicket$House" "owns" "[I" ∈ gw := List.mem_filter.mpr ⟨tbl_1 (List.mem_of_getElem? (i := 67) rfl), rfl⟩
theorem q_1_68 : Cond.fieldLink RX0 76 "LostTicket$House" "owns" "[I" ∈ gw := List.mem_filter.mpr ⟨tbl_1 (List.mem_of_getElem? (i := 68) rfl), rfl⟩
theorem q_1_69 : Cond.fieldLink RX7 105 "LostTicket$House" "owns" "[I" ∈ gw := List.mem_filter.mpr ⟨tbl_1 (List.mem_of_getElem? (i := 69) rfl), rfl⟩
theorem q_1_70 : Cond.fieldLink RX1 91 "LostTicket$House" "owns" "[I" ∈ gw := List.mem_filter.mpr ⟨tbl_1 (List.mem_of_getElem? (i := 70) rfl), rfl⟩
theorem q_1_71 : Cond.fieldLink RX6 109 "LostTicket$House" "owns" "[I" ∈ gw := List.mem_filter.mpr ⟨tbl_1 (List.mem_of_getElem? (i := 71) rfl), rfl⟩
theorem q_1_72 : Cond.fieldLink RX3 35 "LostTicket$House" "kinds" "[I" ∈ gw := List.mem_filter.mpr ⟨tbl_1 (List.mem_of_getElem? (i := 72) rfl), rfl⟩
theorem q_1_73 : Cond.fieldLink RX2 34 "LostTicket$House" "kinds" "[I" ∈ gw := List.mem_filter.mpr ⟨tbl_1 (List.mem_of_getElem? (i := 73) rfl), rfl⟩
theorem q_1_74 : Cond.fieldLink RX1 82 "LostTicket$House" "kinds" "[I" ∈ gw := List.mem_filter.mpr ⟨tbl_1 (List.mem_of_getElem? (i := 74) rfl), rfl⟩
theorem q_1_75 : Cond.fieldLink RX0 80 "LostTicket$House" "kinds" "[I" ∈ gw := List.mem_filter.mpr ⟨tbl_1 (List.mem_of_getElem? (i := 75) rfl), rfl⟩
theorem q_1_76 : Cond.fieldLink RX6 70 "LostTicket$House" "kinds" "[I" ∈ gw := List.mem_filter.mpr ⟨tbl_1 (List.mem_of_getElem? (i := 76) rfl), rfl⟩
theorem q_1_77 : Cond.fieldLink RX7 108 "LostTicket$House" "kinds" "[I" ∈ gw := List.mem_filter.mpr ⟨tbl_1 (List.mem_of_getElem? (i := 77) rfl), rfl⟩
theorem q_1_78 : Cond.fieldLink RX4 35 "LostTicket$House" "seats" "I" ∈ gw := List.mem_filter.mpr ⟨tbl_1 (List.mem_of_getElem? (i := 78) rfl), rfl⟩
theorem q_1_79 : Cond.fieldLink RX0 87 "LostTicket$House" "seats" "I" ∈ gw := List.mem_filter.mpr ⟨tbl_1 (List.mem_of_getElem? (i := 79) rfl), rfl⟩
theorem q_1_80 : Cond.fieldLink RX3 47 "LostTicket$House" "seats" "I" ∈ gw := List.mem_filter.mpr ⟨tbl_1 (List.mem_of_getElem? (i := 80) rfl), rfl⟩
theorem q_1_81 : Cond.fieldLink RX2 62 "LostTicket$House" "seats" "I" ∈ gw := List.mem_filter.mpr ⟨tbl_1 (List.mem_of_getElem? (i := 81) rfl), rfl⟩
theorem q_1_82 : Cond.fieldLink RX6 79 "LostTicket$House" "seats" "I" ∈ gw := List.mem_filter.mpr ⟨tbl_1 (List.mem_of_getElem? (i := 82) rfl), rfl⟩
theorem q_1_83 : Cond.fieldLink RX1 94 "LostTicket$House" "seats" "I" ∈ gw := List.mem_filter.mpr ⟨tbl_1 (List.mem_of_getElem? (i := 83) rfl), rfl⟩
theorem q_1_84 : Cond.fieldLink RX7 275 "LostTicket$House" "seats" "I" ∈ gw := List.mem_filter.mpr ⟨tbl_1 (List.mem_of_getElem? (i := 84) rfl), rfl⟩
theorem q_1_85 : Cond.fieldLink RX3 51 "LostTicket$House" "rows" "I" ∈ gw := List.mem_filter.mpr ⟨tbl_1 (List.mem_of_getElem? (i := 85) rfl), rfl⟩
theorem q_1_86 : Cond.fieldLink RX7 278 "LostTicket$House" "rows" "I" ∈ gw := List.mem_filter.mpr ⟨tbl_1 (List.mem_of_getElem? (i := 86) rfl), rfl⟩
theorem q_1_87 : Cond.fieldLink RX1 33 "LostTicket$House" "people" "I" ∈ gw := List.mem_filter.mpr ⟨tbl_1 (List.mem_of_getElem? (i := 87) rfl), rfl⟩
theorem q_1_88 : Cond.fieldLink RX4 23 "LostTicket$House" "people" "I" ∈ gw := List.mem_filter.mpr ⟨tbl_1 (List.mem_of_getElem? (i := 88) rfl), rfl⟩
theorem q_1_89 : Cond.fieldLink RX2 26 "LostTicket$House" "people" "I" ∈ gw := List.mem_filter.mpr ⟨tbl_1 (List.mem_of_getElem? (i := 89) rfl), rfl⟩
theorem q_1_90 : Cond.fieldLink RX0 56 "LostTicket$House" "people" "I" ∈ gw := List.mem_filter.mpr ⟨tbl_1 (List.mem_of_getElem? (i := 90) rfl), rfl⟩
theorem q_1_91 : Cond.fieldLink RX6 65 "LostTicket$House" "people" "I" ∈ gw := List.mem_filter.mpr ⟨tbl_1 (List.mem_of_getElem? (i := 91) rfl), rfl⟩
theorem q_1_92 : Cond.fieldLink RX3 68 "LostTicket$House" "people" "I" ∈ gw := List.mem_filter.mpr ⟨tbl_1 (List.mem_of_getElem? (i := 92) rfl), rfl⟩
theorem q_1_93 : Cond.fieldLink RX7 128 "LostTicket$House" "people" "I" ∈ gw := List.mem_filter.mpr ⟨tbl_1 (List.mem_of_getElem? (i := 93) rfl), rfl⟩
theorem q_1_118 : Cond.classLink RX7 16 "LostTicket$Chances" ∈ gw := List.mem_filter.mpr ⟨tbl_1 (List.mem_of_getElem? (i := 118) rfl), rfl⟩
theorem q_1_119 : Cond.instantiable RX0 9 ∈ gw := List.mem_filter.mpr ⟨tbl_1 (List.mem_of_getElem? (i := 119) rfl), rfl⟩
theorem q_1_120 : Cond.methodLink RX7 18 yX0_init ∈ gw := List.mem_filter.mpr ⟨tbl_1 (List.mem_of_getElem? (i := 120) rfl), rfl⟩
theorem q_1_121 : Cond.instanceMethod yX0_init ∈ gw := List.mem_filter.mpr ⟨tbl_1 (List.mem_of_getElem? (i := 121) rfl), rfl⟩
theorem q_1_122 : Cond.code yX0_init prog_2_method_1_code 2 none ∈ gw := List.mem_filter.mpr ⟨tbl_1 (List.mem_of_getElem? (i := 122) rfl), rfl⟩
theorem q_1_123 : Cond.methodLink RX0 3 objectInit ∈ gw := List.mem_filter.mpr ⟨tbl_1 (List.mem_of_getElem? (i := 123) rfl), rfl⟩
theorem q_1_124 : Cond.fieldLink RX0 9 "LostTicket$Chances" "reach" "[J" ∈ gw := List.mem_filter.mpr ⟨tbl_1 (List.mem_of_getElem? (i := 124) rfl), rfl⟩
theorem q_1_125 : Cond.fieldLink RX7 140 "LostTicket$Chances" "reach" "[J" ∈ gw := List.mem_filter.mpr ⟨tbl_1 (List.mem_of_getElem? (i := 125) rfl), rfl⟩
theorem q_1_126 : Cond.fieldLink RX0 15 "LostTicket$Chances" "sits" "[J" ∈ gw := List.mem_filter.mpr ⟨tbl_1 (List.mem_of_getElem? (i := 126) rfl), rfl⟩
theorem q_1_127 : Cond.fieldLink RX7 118 "LostTicket$Chances" "sits" "[J" ∈ gw := List.mem_filter.mpr ⟨tbl_1 (List.mem_of_getElem? (i := 127) rfl), rfl⟩
theorem q_1_128 : Cond.fieldLink RX0 18 "LostTicket$Chances" "wrongs" "[J" ∈ gw := List.mem_filter.mpr ⟨tbl_1 (List.mem_of_getElem? (i := 128) rfl), rfl⟩
theorem q_1_129 : Cond.fieldLink RX7 147 "LostTicket$Chances" "wrongs" "[J" ∈ gw := List.mem_filter.mpr ⟨tbl_1 (List.mem_of_getElem? (i := 129) rfl), rfl⟩
theorem q_1_130 : Cond.fieldLink RX0 21 "LostTicket$Chances" "free" "[J" ∈ gw := List.mem_filter.mpr ⟨tbl_1 (List.mem_of_getElem? (i := 130) rfl), rfl⟩
theorem q_1_131 : Cond.fieldLink RX7 150 "LostTicket$Chances" "free" "[J" ∈ gw := List.mem_filter.mpr ⟨tbl_1 (List.mem_of_getElem? (i := 131) rfl), rfl⟩
theorem q_1_132 : Cond.fieldLink RX0 60 "LostTicket$Chances" "meanWrong" "J" ∈ gw := List.mem_filter.mpr ⟨tbl_1 (List.mem_of_getElem? (i := 132) rfl), rfl⟩
theorem q_1_133 : Cond.fieldLink RX7 143 "LostTicket$Chances" "meanWrong" "J" ∈ gw := List.mem_filter.mpr ⟨tbl_1 (List.mem_of_getElem? (i := 133) rfl), rfl⟩
theorem q_1_134 : Cond.fieldLink RX0 70 "LostTicket$Chances" "meanLooks" "J" ∈ gw := List.mem_filter.mpr ⟨tbl_1 (List.mem_of_getElem? (i := 134) rfl), rfl⟩
theorem q_1_135 : Cond.fieldLink RX7 153 "LostTicket$Chances" "meanLooks" "J" ∈ gw := List.mem_filter.mpr ⟨tbl_1 (List.mem_of_getElem? (i := 135) rfl), rfl⟩
theorem q_1_136 : Cond.fieldLink RX0 31 "LostTicket$Chances" "ready" "Z" ∈ gw := List.mem_filter.mpr ⟨tbl_1 (List.mem_of_getElem? (i := 136) rfl), rfl⟩
theorem q_1_137 : Cond.fieldLink RX7 348 "LostTicket$Chances" "ready" "Z" ∈ gw := List.mem_filter.mpr ⟨tbl_1 (List.mem_of_getElem? (i := 137) rfl), rfl⟩
theorem q_1_138 : Cond.fieldLink RX0 27 "LostTicket$Chances" "house" "LLostTicket$House;" ∈ gw := List.mem_filter.mpr ⟨tbl_1 (List.mem_of_getElem? (i := 138) rfl), rfl⟩
theorem q_1_139 : Cond.fieldLink RX0 24 "LostTicket$Chances" "wrongIn" "[J" ∈ gw := List.mem_filter.mpr ⟨tbl_1 (List.mem_of_getElem? (i := 139) rfl), rfl⟩
theorem q_1_160 : Cond.classLink RX7 25 "LostTicket$Doors" ∈ gw := List.mem_filter.mpr ⟨tbl_1 (List.mem_of_getElem? (i := 160) rfl), rfl⟩
theorem q_1_161 : Cond.instantiable RX1 7 ∈ gw := List.mem_filter.mpr ⟨tbl_1 (List.mem_of_getElem? (i := 161) rfl), rfl⟩
theorem q_1_162 : Cond.methodLink RX7 27 yX1_init ∈ gw := List.mem_filter.mpr ⟨tbl_1 (List.mem_of_getElem? (i := 162) rfl), rfl⟩
theorem q_1_163 : Cond.instanceMethod yX1_init ∈ gw := List.mem_filter.mpr ⟨tbl_1 (List.mem_of_getElem? (i := 163) rfl), rfl⟩
theorem q_1_164 : Cond.code yX1_init prog_3_method_1_code 2 none ∈ gw := List.mem_filter.mpr ⟨tbl_1 (List.mem_of_getElem? (i := 164) rfl), rfl⟩
theorem q_1_165 : Cond.methodLink RX1 3 objectInit ∈ gw := List.mem_filter.mpr ⟨tbl_1 (List.mem_of_getElem? (i := 165) rfl), rfl⟩
theorem q_1_166 : Cond.fieldLink RX1 9 "LostTicket$Doors" "best" "[I" ∈ gw := List.mem_filter.mpr ⟨tbl_1 (List.mem_of_getElem? (i := 166) rfl), rfl⟩
theorem q_1_167 : Cond.fieldLink RX7 172 "LostTicket$Doors" "best" "[I" ∈ gw := List.mem_filter.mpr ⟨tbl_1 (List.mem_of_getElem? (i := 167) rfl), rfl⟩
theorem q_1_168 : Cond.fieldLink RX1 43 "LostTicket$Doors" "least" "J" ∈ gw := List.mem_filter.mpr ⟨tbl_1 (List.mem_of_getElem? (i := 168) rfl), rfl⟩
theorem q_1_169 : Cond.fieldLink RX7 175 "LostTicket$Doors" "least" "J" ∈ gw := List.mem_filter.mpr ⟨tbl_1 (List.mem_of_getElem? (i := 169) rfl), rfl⟩
theorem q_1_170 : Cond.fieldLink RX1 29 "LostTicket$Doors" "ready" "Z" ∈ gw := List.mem_filter.mpr ⟨tbl_1 (List.mem_of_getElem? (i := 170) rfl), rfl⟩
theorem q_1_171 : Cond.fieldLink RX7 352 "LostTicket$Doors" "ready" "Z" ∈ gw := List.mem_filter.mpr ⟨tbl_1 (List.mem_of_getElem? (i := 171) rfl), rfl⟩
theorem q_1_172 : Cond.fieldLink RX1 25 "LostTicket$Doors" "house" "LLostTicket$House;" ∈ gw := List.mem_filter.mpr ⟨tbl_1 (List.mem_of_getElem? (i := 172) rfl), rfl⟩
theorem q_1_173 : Cond.fieldLink RX1 15 "LostTicket$Doors" "row" "[I" ∈ gw := List.mem_filter.mpr ⟨tbl_1 (List.mem_of_getElem? (i := 173) rfl), rfl⟩
theorem q_1_174 : Cond.fieldLink RX1 18 "LostTicket$Doors" "reach" "[J" ∈ gw := List.mem_filter.mpr ⟨tbl_1 (List.mem_of_getElem? (i := 174) rfl), rfl⟩
theorem q_1_175 : Cond.fieldLink RX1 22 "LostTicket$Doors" "takenBehind" "[J" ∈ gw := List.mem_filter.mpr ⟨tbl_1 (List.mem_of_getElem? (i := 175) rfl), rfl⟩
theorem q_1_191 : Cond.classLink RX7 32 "LostTicket$Witness" ∈ gw := List.mem_filter.mpr ⟨tbl_1 (List.mem_of_getElem? (i := 191) rfl), rfl⟩
theorem q_1_192 : Cond.instantiable RX6 12 ∈ gw := List.mem_filter.mpr ⟨tbl_1 (List.mem_of_getElem? (i := 192) rfl), rfl⟩
theorem q_1_193 : Cond.methodLink RX7 34 yX6_init ∈ gw := List.mem_filter.mpr ⟨tbl_1 (List.mem_of_getElem? (i := 193) rfl), rfl⟩
theorem q_1_194 : Cond.instanceMethod yX6_init ∈ gw := List.mem_filter.mpr ⟨tbl_1 (List.mem_of_getElem? (i := 194) rfl), rfl⟩
theorem q_1_195 : Cond.code yX6_init prog_8_method_1_code 2 none ∈ gw := List.mem_filter.mpr ⟨tbl_1 (List.mem_of_getElem? (i := 195) rfl), rfl⟩
theorem q_1_196 : Cond.methodLink RX6 3 objectInit ∈ gw := List.mem_filter.mpr ⟨tbl_1 (List.mem_of_getElem? (i := 196) rfl), rfl⟩
theorem q_1_197 : Cond.fieldLink RX6 9 "LostTicket$Witness" "weights" "[J" ∈ gw := List.mem_filter.mpr ⟨tbl_1 (List.mem_of_getElem? (i := 197) rfl), rfl⟩
theorem q_1_198 : Cond.fieldLink RX7 215 "LostTicket$Witness" "weights" "[J" ∈ gw := List.mem_filter.mpr ⟨tbl_1 (List.mem_of_getElem? (i := 198) rfl), rfl⟩
theorem q_1_199 : Cond.fieldLink RX6 38 "LostTicket$Witness" "size" "I" ∈ gw := List.mem_filter.mpr ⟨tbl_1 (List.mem_of_getElem? (i := 199) rfl), rfl⟩
theorem q_1_200 : Cond.fieldLink RX7 195 "LostTicket$Witness" "size" "I" ∈ gw := List.mem_filter.mpr ⟨tbl_1 (List.mem_of_getElem? (i := 200) rfl), rfl⟩
theorem q_1_201 : Cond.fieldLink RX6 55 "LostTicket$Witness" "suspects" "I" ∈ gw := List.mem_filter.mpr ⟨tbl_1 (List.mem_of_getElem? (i := 201) rfl), rfl⟩
theorem q_1_202 : Cond.fieldLink RX7 209 "LostTicket$Witness" "suspects" "I" ∈ gw := List.mem_filter.mpr ⟨tbl_1 (List.mem_of_getElem? (i := 202) rfl), rfl⟩
theorem q_1_203 : Cond.fieldLink RX6 58 "LostTicket$Witness" "total" "J" ∈ gw := List.mem_filter.mpr ⟨tbl_1 (List.mem_of_getElem? (i := 203) rfl), rfl⟩
theorem q_1_204 : Cond.fieldLink RX7 212 "LostTicket$Witness" "total" "J" ∈ gw := List.mem_filter.mpr ⟨tbl_1 (List.mem_of_getElem? (i := 204) rfl), rfl⟩
theorem q_1_205 : Cond.fieldLink RX6 42 "LostTicket$Witness" "ready" "Z" ∈ gw := List.mem_filter.mpr ⟨tbl_1 (List.mem_of_getElem? (i := 205) rfl), rfl⟩
theorem q_1_206 : Cond.fieldLink RX7 353 "LostTicket$Witness" "ready" "Z" ∈ gw := List.mem_filter.mpr ⟨tbl_1 (List.mem_of_getElem? (i := 206) rfl), rfl⟩
theorem q_1_207 : Cond.fieldLink RX6 34 "LostTicket$Witness" "house" "LLostTicket$House;" ∈ gw := List.mem_filter.mpr ⟨tbl_1 (List.mem_of_getElem? (i := 207) rfl), rfl⟩
theorem q_1_208 : Cond.fieldLink RX6 15 "LostTicket$Witness" "persons" "[I" ∈ gw := List.mem_filter.mpr ⟨tbl_1 (List.mem_of_getElem? (i := 208) rfl), rfl⟩
theorem q_1_209 : Cond.fieldLink RX6 19 "LostTicket$Witness" "places" "[I" ∈ gw := List.mem_filter.mpr ⟨tbl_1 (List.mem_of_getElem? (i := 209) rfl), rfl⟩
theorem q_1_210 : Cond.fieldLink RX6 22 "LostTicket$Witness" "allowed" "[I" ∈ gw := List.mem_filter.mpr ⟨tbl_1 (List.mem_of_getElem? (i := 210) rfl), rfl⟩
theorem q_1_211 : Cond.fieldLink RX6 25 "LostTicket$Witness" "kinds" "[I" ∈ gw := List.mem_filter.mpr ⟨tbl_1 (List.mem_of_getElem? (i := 211) rfl), rfl⟩
theorem q_1_212 : Cond.fieldLink RX6 28 "LostTicket$Witness" "answers" "[I" ∈ gw := List.mem_filter.mpr ⟨tbl_1 (List.mem_of_getElem? (i := 212) rfl), rfl⟩
theorem q_1_213 : Cond.fieldLink RX6 31 "LostTicket$Witness" "reach" "[J" ∈ gw := List.mem_filter.mpr ⟨tbl_1 (List.mem_of_getElem? (i := 213) rfl), rfl⟩
theorem q_1_239 : Cond.classLink RX7 39 "LostTicket$Evening" ∈ gw := List.mem_filter.mpr ⟨tbl_1 (List.mem_of_getElem? (i := 239) rfl), rfl⟩
theorem q_2_0 : Cond.instantiable RX2 4 ∈ gw := List.mem_filter.mpr ⟨tbl_2 (List.mem_of_getElem? (i := 0) rfl), rfl⟩
theorem q_2_1 : Cond.methodLink RX7 41 yX2_init ∈ gw := List.mem_filter.mpr ⟨tbl_2 (List.mem_of_getElem? (i := 1) rfl), rfl⟩
theorem q_2_2 : Cond.instanceMethod yX2_init ∈ gw := List.mem_filter.mpr ⟨tbl_2 (List.mem_of_getElem? (i := 2) rfl), rfl⟩
theorem q_2_3 : Cond.code yX2_init prog_4_method_1_code 2 none ∈ gw := List.mem_filter.mpr ⟨tbl_2 (List.mem_of_getElem? (i := 3) rfl), rfl⟩
theorem q_2_4 : Cond.methodLink RX2 3 objectInit ∈ gw := List.mem_filter.mpr ⟨tbl_2 (List.mem_of_getElem? (i := 4) rfl), rfl⟩
theorem q_2_5 : Cond.fieldLink RX2 9 "LostTicket$Evening" "places" "[I" ∈ gw := List.mem_filter.mpr ⟨tbl_2 (List.mem_of_getElem? (i := 5) rfl), rfl⟩
theorem q_2_6 : Cond.fieldLink RX7 234 "LostTicket$Evening" "places" "[I" ∈ gw := List.mem_filter.mpr ⟨tbl_2 (List.mem_of_getElem? (i := 6) rfl), rfl⟩
theorem q_2_7 : Cond.fieldLink RX2 23 "LostTicket$Evening" "wrongs" "I" ∈ gw := List.mem_filter.mpr ⟨tbl_2 (List.mem_of_getElem? (i := 7) rfl), rfl⟩
theorem q_2_8 : Cond.fieldLink RX7 232 "LostTicket$Evening" "wrongs" "I" ∈ gw := List.mem_filter.mpr ⟨tbl_2 (List.mem_of_getElem? (i := 8) rfl), rfl⟩
theorem q_2_9 : Cond.fieldLink RX2 15 "LostTicket$Evening" "house" "LLostTicket$House;" ∈ gw := List.mem_filter.mpr ⟨tbl_2 (List.mem_of_getElem? (i := 9) rfl), rfl⟩
theorem q_2_10 : Cond.fieldLink RX2 19 "LostTicket$Evening" "state" "I" ∈ gw := List.mem_filter.mpr ⟨tbl_2 (List.mem_of_getElem? (i := 10) rfl), rfl⟩
theorem q_2_20 : Cond.classLink RX7 46 "LostTicket$Rings" ∈ gw := List.mem_filter.mpr ⟨tbl_2 (List.mem_of_getElem? (i := 20) rfl), rfl⟩
theorem q_2_21 : Cond.instantiable RX4 5 ∈ gw := List.mem_filter.mpr ⟨tbl_2 (List.mem_of_getElem? (i := 21) rfl), rfl⟩
theorem q_2_22 : Cond.methodLink RX7 48 yX4_init ∈ gw := List.mem_filter.mpr ⟨tbl_2 (List.mem_of_getElem? (i := 22) rfl), rfl⟩
theorem q_2_23 : Cond.instanceMethod yX4_init ∈ gw := List.mem_filter.mpr ⟨tbl_2 (List.mem_of_getElem? (i := 23) rfl), rfl⟩
theorem q_2_24 : Cond.code yX4_init prog_6_method_1_code 2 none ∈ gw := List.mem_filter.mpr ⟨tbl_2 (List.mem_of_getElem? (i := 24) rfl), rfl⟩
theorem q_2_25 : Cond.methodLink RX4 3 objectInit ∈ gw := List.mem_filter.mpr ⟨tbl_2 (List.mem_of_getElem? (i := 25) rfl), rfl⟩
theorem q_2_26 : Cond.fieldLink RX4 42 "LostTicket$Rings" "number" "I" ∈ gw := List.mem_filter.mpr ⟨tbl_2 (List.mem_of_getElem? (i := 26) rfl), rfl⟩
theorem q_2_27 : Cond.fieldLink RX7 182 "LostTicket$Rings" "number" "I" ∈ gw := List.mem_filter.mpr ⟨tbl_2 (List.mem_of_getElem? (i := 27) rfl), rfl⟩
theorem q_2_28 : Cond.fieldLink RX4 45 "LostTicket$Rings" "changes" "I" ∈ gw := List.mem_filter.mpr ⟨tbl_2 (List.mem_of_getElem? (i := 28) rfl), rfl⟩
theorem q_2_29 : Cond.fieldLink RX7 185 "LostTicket$Rings" "changes" "I" ∈ gw := List.mem_filter.mpr ⟨tbl_2 (List.mem_of_getElem? (i := 29) rfl), rfl⟩
theorem q_2_30 : Cond.fieldLink RX4 48 "LostTicket$Rings" "longest" "I" ∈ gw := List.mem_filter.mpr ⟨tbl_2 (List.mem_of_getElem? (i := 30) rfl), rfl⟩
theorem q_2_31 : Cond.fieldLink RX4 15 "LostTicket$Rings" "house" "LLostTicket$House;" ∈ gw := List.mem_filter.mpr ⟨tbl_2 (List.mem_of_getElem? (i := 31) rfl), rfl⟩
theorem q_2_32 : Cond.fieldLink RX4 9 "LostTicket$Rings" "goal" "[I" ∈ gw := List.mem_filter.mpr ⟨tbl_2 (List.mem_of_getElem? (i := 32) rfl), rfl⟩
theorem q_2_44 : Cond.classLink RX7 53 "LostTicket$Sheet" ∈ gw := List.mem_filter.mpr ⟨tbl_2 (List.mem_of_getElem? (i := 44) rfl), rfl⟩
theorem q_2_46 : Cond.instantiable RX5 3 ∈ gw := List.mem_filter.mpr ⟨tbl_2 (List.mem_of_getElem? (i := 46) rfl), rfl⟩
theorem q_2_48 : Cond.instanceMethod yX5_init ∈ gw := List.mem_filter.mpr ⟨tbl_2 (List.mem_of_getElem? (i := 48) rfl), rfl⟩
theorem q_2_49 : Cond.code yX5_init prog_7_method_1_code 1 none ∈ gw := List.mem_filter.mpr ⟨tbl_2 (List.mem_of_getElem? (i := 49) rfl), rfl⟩
theorem q_2_50 : Cond.methodLink RX5 3 objectInit ∈ gw := List.mem_filter.mpr ⟨tbl_2 (List.mem_of_getElem? (i := 50) rfl), rfl⟩
theorem q_2_51 : Cond.fieldLink RX5 9 "LostTicket$Sheet" "items" "[I" ∈ gw := List.mem_filter.mpr ⟨tbl_2 (List.mem_of_getElem? (i := 51) rfl), rfl⟩
theorem q_2_52 : Cond.fieldLink RX7 160 "LostTicket$Sheet" "items" "[I" ∈ gw := List.mem_filter.mpr ⟨tbl_2 (List.mem_of_getElem? (i := 52) rfl), rfl⟩
theorem q_2_53 : Cond.fieldLink RX5 19 "LostTicket$Sheet" "form" "I" ∈ gw := List.mem_filter.mpr ⟨tbl_2 (List.mem_of_getElem? (i := 53) rfl), rfl⟩
theorem q_2_54 : Cond.fieldLink RX7 257 "LostTicket$Sheet" "form" "I" ∈ gw := List.mem_filter.mpr ⟨tbl_2 (List.mem_of_getElem? (i := 54) rfl), rfl⟩
theorem q_2_55 : Cond.fieldLink RX5 15 "LostTicket$Sheet" "size" "I" ∈ gw := List.mem_filter.mpr ⟨tbl_2 (List.mem_of_getElem? (i := 55) rfl), rfl⟩
theorem q_2_56 : Cond.fieldLink RX7 204 "LostTicket$Sheet" "size" "I" ∈ gw := List.mem_filter.mpr ⟨tbl_2 (List.mem_of_getElem? (i := 56) rfl), rfl⟩
theorem q_2_64 : Cond.fieldLink RX7 12 "LostTicket" "house" "LLostTicket$House;" ∈ gw := List.mem_filter.mpr ⟨tbl_2 (List.mem_of_getElem? (i := 64) rfl), rfl⟩
theorem q_2_65 : Cond.fieldLink RX7 21 "LostTicket" "chances" "LLostTicket$Chances;" ∈ gw := List.mem_filter.mpr ⟨tbl_2 (List.mem_of_getElem? (i := 65) rfl), rfl⟩
theorem q_2_66 : Cond.fieldLink RX7 28 "LostTicket" "doors" "LLostTicket$Doors;" ∈ gw := List.mem_filter.mpr ⟨tbl_2 (List.mem_of_getElem? (i := 66) rfl), rfl⟩
theorem q_2_67 : Cond.fieldLink RX7 35 "LostTicket" "witness" "LLostTicket$Witness;" ∈ gw := List.mem_filter.mpr ⟨tbl_2 (List.mem_of_getElem? (i := 67) rfl), rfl⟩
theorem q_2_68 : Cond.fieldLink RX7 42 "LostTicket" "play" "LLostTicket$Evening;" ∈ gw := List.mem_filter.mpr ⟨tbl_2 (List.mem_of_getElem? (i := 68) rfl), rfl⟩
theorem q_2_69 : Cond.fieldLink RX7 49 "LostTicket" "rings" "LLostTicket$Rings;" ∈ gw := List.mem_filter.mpr ⟨tbl_2 (List.mem_of_getElem? (i := 69) rfl), rfl⟩
theorem q_2_70 : Cond.fieldLink RX7 55 "LostTicket" "sheets" "[LLostTicket$Sheet;" ∈ gw := List.mem_filter.mpr ⟨tbl_2 (List.mem_of_getElem? (i := 70) rfl), rfl⟩
theorem q_2_71 : Cond.fieldLink RX7 60 "LostTicket" "finding" "I" ∈ gw := List.mem_filter.mpr ⟨tbl_2 (List.mem_of_getElem? (i := 71) rfl), rfl⟩
theorem q_2_89 : Cond.methodLink RL 13 yX7_type ∈ gw := List.mem_filter.mpr ⟨tbl_2 (List.mem_of_getElem? (i := 89) rfl), rfl⟩
theorem q_2_90 : Cond.instanceMethod yX7_type ∈ gw := List.mem_filter.mpr ⟨tbl_2 (List.mem_of_getElem? (i := 90) rfl), rfl⟩
theorem q_2_91 : Cond.selects RX7 yX7_type yX7_type ∈ gw := List.mem_filter.mpr ⟨tbl_2 (List.mem_of_getElem? (i := 91) rfl), rfl⟩
theorem q_2_92 : Cond.code yX7_type prog_1_method_2_code 3 (some .int) ∈ gw := List.mem_filter.mpr ⟨tbl_2 (List.mem_of_getElem? (i := 92) rfl), rfl⟩
theorem q_2_93 : Cond.methodLink RX7 64 yX7_isNoText ∈ gw := List.mem_filter.mpr ⟨tbl_2 (List.mem_of_getElem? (i := 93) rfl), rfl⟩
theorem q_2_94 : Cond.static yX7_isNoText ∈ gw := List.mem_filter.mpr ⟨tbl_2 (List.mem_of_getElem? (i := 94) rfl), rfl⟩
theorem q_2_95 : Cond.code yX7_isNoText prog_1_method_38_code 1 (some .boolean) ∈ gw := List.mem_filter.mpr ⟨tbl_2 (List.mem_of_getElem? (i := 95) rfl), rfl⟩
theorem q_2_96 : Cond.methodLink RX7 72 yX3_append ∈ gw := List.mem_filter.mpr ⟨tbl_2 (List.mem_of_getElem? (i := 96) rfl), rfl⟩
theorem q_2_97 : Cond.instanceMethod yX3_append ∈ gw := List.mem_filter.mpr ⟨tbl_2 (List.mem_of_getElem? (i := 97) rfl), rfl⟩
theorem q_2_98 : Cond.selects RX3 yX3_append yX3_append ∈ gw := List.mem_filter.mpr ⟨tbl_2 (List.mem_of_getElem? (i := 98) rfl), rfl⟩
theorem q_2_99 : Cond.code yX3_append prog_5_method_2_code 3 none ∈ gw := List.mem_filter.mpr ⟨tbl_2 (List.mem_of_getElem? (i := 99) rfl), rfl⟩
theorem q_2_100 : Cond.methodLink RX7 76 yX7_spoilAnswers ∈ gw := List.mem_filter.mpr ⟨tbl_2 (List.mem_of_getElem? (i := 100) rfl), rfl⟩
theorem q_2_102 : Cond.instanceMethod yX7_spoilAnswers ∈ gw := List.mem_filter.mpr ⟨tbl_2 (List.mem_of_getElem? (i := 102) rfl), rfl⟩
theorem q_2_103 : Cond.code yX7_spoilAnswers prog_1_method_37_code 1 none ∈ gw := List.mem_filter.mpr ⟨tbl_2 (List.mem_of_getElem? (i := 103) rfl), rfl⟩
theorem q_2_104 : Cond.methodLink RL 18 yX7_wipe ∈ gw := List.mem_filter.mpr ⟨tbl_2 (List.mem_of_getElem? (i := 104) rfl), rfl⟩
theorem q_2_105 : Cond.instanceMethod yX7_wipe ∈ gw := List.mem_filter.mpr ⟨tbl_2 (List.mem_of_getElem? (i := 105) rfl), rfl⟩
theorem q_2_106 : Cond.selects RX7 yX7_wipe yX7_wipe ∈ gw := List.mem_filter.mpr ⟨tbl_2 (List.mem_of_getElem? (i := 106) rfl), rfl⟩
theorem q_2_107 : Cond.code yX7_wipe prog_1_method_3_code 3 (some .int) ∈ gw := List.mem_filter.mpr ⟨tbl_2 (List.mem_of_getElem? (i := 107) rfl), rfl⟩
theorem q_2_108 : Cond.methodLink RX7 79 yX3_empty ∈ gw := List.mem_filter.mpr ⟨tbl_2 (List.mem_of_getElem? (i := 108) rfl), rfl⟩
theorem q_2_109 : Cond.instanceMethod yX3_empty ∈ gw := List.mem_filter.mpr ⟨tbl_2 (List.mem_of_getElem? (i := 109) rfl), rfl⟩
theorem q_2_110 : Cond.selects RX3 yX3_empty yX3_empty ∈ gw := List.mem_filter.mpr ⟨tbl_2 (List.mem_of_getElem? (i := 110) rfl), rfl⟩
theorem q_2_111 : Cond.code yX3_empty prog_5_method_3_code 2 none ∈ gw := List.mem_filter.mpr ⟨tbl_2 (List.mem_of_getElem? (i := 111) rfl), rfl⟩
theorem q_2_112 : Cond.methodLink RL 23 yX7_fault ∈ gw := List.mem_filter.mpr ⟨tbl_2 (List.mem_of_getElem? (i := 112) rfl), rfl⟩
theorem q_2_113 : Cond.instanceMethod yX7_fault ∈ gw := List.mem_filter.mpr ⟨tbl_2 (List.mem_of_getElem? (i := 113) rfl), rfl⟩
theorem q_2_114 : Cond.selects RX7 yX7_fault yX7_fault ∈ gw := List.mem_filter.mpr ⟨tbl_2 (List.mem_of_getElem? (i := 114) rfl), rfl⟩
theorem q_2_115 : Cond.code yX7_fault prog_1_method_4_code 2 (some .int) ∈ gw := List.mem_filter.mpr ⟨tbl_2 (List.mem_of_getElem? (i := 115) rfl), rfl⟩
theorem q_2_116 : Cond.methodLink RL 27 yX7_seat ∈ gw := List.mem_filter.mpr ⟨tbl_2 (List.mem_of_getElem? (i := 116) rfl), rfl⟩
theorem q_2_117 : Cond.instanceMethod yX7_seat ∈ gw := List.mem_filter.mpr ⟨tbl_2 (List.mem_of_getElem? (i := 117) rfl), rfl⟩
theorem q_2_118 : Cond.selects RX7 yX7_seat yX7_seat ∈ gw := List.mem_filter.mpr ⟨tbl_2 (List.mem_of_getElem? (i := 118) rfl), rfl⟩
theorem q_2_119 : Cond.code yX7_seat prog_1_method_5_code 3 (some .int) ∈ gw := List.mem_filter.mpr ⟨tbl_2 (List.mem_of_getElem? (i := 119) rfl), rfl⟩
theorem q_2_120 : Cond.methodLink RX7 86 yX7_isNoSeat ∈ gw := List.mem_filter.mpr ⟨tbl_2 (List.mem_of_getElem? (i := 120) rfl), rfl⟩
theorem q_2_122 : Cond.instanceMethod yX7_isNoSeat ∈ gw := List.mem_filter.mpr ⟨tbl_2 (List.mem_of_getElem? (i := 122) rfl), rfl⟩
theorem q_2_123 : Cond.code yX7_isNoSeat prog_1_method_39_code 2 (some .boolean) ∈ gw := List.mem_filter.mpr ⟨tbl_2 (List.mem_of_getElem? (i := 123) rfl), rfl⟩
theorem q_2_124 : Cond.methodLink RX7 95 yX3_ownersOf ∈ gw := List.mem_filter.mpr ⟨tbl_2 (List.mem_of_getElem? (i := 124) rfl), rfl⟩
theorem q_2_125 : Cond.instanceMethod yX3_ownersOf ∈ gw := List.mem_filter.mpr ⟨tbl_2 (List.mem_of_getElem? (i := 125) rfl), rfl⟩
theorem q_2_126 : Cond.selects RX3 yX3_ownersOf yX3_ownersOf ∈ gw := List.mem_filter.mpr ⟨tbl_2 (List.mem_of_getElem? (i := 126) rfl), rfl⟩
theorem q_2_127 : Cond.code yX3_ownersOf prog_5_method_11_code 4 (some .int) ∈ gw := List.mem_filter.mpr ⟨tbl_2 (List.mem_of_getElem? (i := 127) rfl), rfl⟩
theorem q_2_128 : Cond.methodLink RL 31 yX7_person ∈ gw := List.mem_filter.mpr ⟨tbl_2 (List.mem_of_getElem? (i := 128) rfl), rfl⟩
theorem q_2_129 : Cond.instanceMethod yX7_person ∈ gw := List.mem_filter.mpr ⟨tbl_2 (List.mem_of_getElem? (i := 129) rfl), rfl⟩
theorem q_2_130 : Cond.selects RX7 yX7_person yX7_person ∈ gw := List.mem_filter.mpr ⟨tbl_2 (List.mem_of_getElem? (i := 130) rfl), rfl⟩
theorem q_2_131 : Cond.code yX7_person prog_1_method_6_code 3 (some .int) ∈ gw := List.mem_filter.mpr ⟨tbl_2 (List.mem_of_getElem? (i := 131) rfl), rfl⟩
theorem q_2_132 : Cond.methodLink RX7 99 yX7_isNobody ∈ gw := List.mem_filter.mpr ⟨tbl_2 (List.mem_of_getElem? (i := 132) rfl), rfl⟩
theorem q_2_134 : Cond.instanceMethod yX7_isNobody ∈ gw := List.mem_filter.mpr ⟨tbl_2 (List.mem_of_getElem? (i := 134) rfl), rfl⟩
theorem q_2_135 : Cond.code yX7_isNobody prog_1_method_40_code 2 (some .boolean) ∈ gw := List.mem_filter.mpr ⟨tbl_2 (List.mem_of_getElem? (i := 135) rfl), rfl⟩
theorem q_2_136 : Cond.methodLink RX7 102 yX7_isNoPart ∈ gw := List.mem_filter.mpr ⟨tbl_2 (List.mem_of_getElem? (i := 136) rfl), rfl⟩
theorem q_2_137 : Cond.static yX7_isNoPart ∈ gw := List.mem_filter.mpr ⟨tbl_2 (List.mem_of_getElem? (i := 137) rfl), rfl⟩
theorem q_2_138 : Cond.code yX7_isNoPart prog_1_method_41_code 1 (some .boolean) ∈ gw := List.mem_filter.mpr ⟨tbl_2 (List.mem_of_getElem? (i := 138) rfl), rfl⟩
theorem q_2_139 : Cond.methodLink RL 35 yX7_likely ∈ gw := List.mem_filter.mpr ⟨tbl_2 (List.mem_of_getElem? (i := 139) rfl), rfl⟩
theorem q_2_140 : Cond.instanceMethod yX7_likely ∈ gw := List.mem_filter.mpr ⟨tbl_2 (List.mem_of_getElem? (i := 140) rfl), rfl⟩
theorem q_2_141 : Cond.selects RX7 yX7_likely yX7_likely ∈ gw := List.mem_filter.mpr ⟨tbl_2 (List.mem_of_getElem? (i := 141) rfl), rfl⟩
theorem q_2_142 : Cond.code yX7_likely prog_1_method_7_code 4 (some .long) ∈ gw := List.mem_filter.mpr ⟨tbl_2 (List.mem_of_getElem? (i := 142) rfl), rfl⟩
theorem q_2_143 : Cond.methodLink RX7 111 yX7_asLong ∈ gw := List.mem_filter.mpr ⟨tbl_2 (List.mem_of_getElem? (i := 143) rfl), rfl⟩
theorem q_2_144 : Cond.static yX7_asLong ∈ gw := List.mem_filter.mpr ⟨tbl_2 (List.mem_of_getElem? (i := 144) rfl), rfl⟩
theorem q_2_145 : Cond.code yX7_asLong prog_1_method_48_code 1 (some .long) ∈ gw := List.mem_filter.mpr ⟨tbl_2 (List.mem_of_getElem? (i := 145) rfl), rfl⟩
theorem q_2_146 : Cond.constantLong RX7 356 (-9223372036854775808) ∈ gw := List.mem_filter.mpr ⟨tbl_2 (List.mem_of_getElem? (i := 146) rfl), rfl⟩
theorem q_2_147 : Cond.methodLink RX7 115 yX0_refresh ∈ gw := List.mem_filter.mpr ⟨tbl_2 (List.mem_of_getElem? (i := 147) rfl), rfl⟩
theorem q_2_148 : Cond.instanceMethod yX0_refresh ∈ gw := List.mem_filter.mpr ⟨tbl_2 (List.mem_of_getElem? (i := 148) rfl), rfl⟩
theorem q_2_149 : Cond.selects RX0 yX0_refresh yX0_refresh ∈ gw := List.mem_filter.mpr ⟨tbl_2 (List.mem_of_getElem? (i := 149) rfl), rfl⟩
theorem q_2_150 : Cond.code yX0_refresh prog_2_method_2_code 3 none ∈ gw := List.mem_filter.mpr ⟨tbl_2 (List.mem_of_getElem? (i := 150) rfl), rfl⟩
theorem q_2_151 : Cond.methodLink RX0 35 yX0_clear ∈ gw := List.mem_filter.mpr ⟨tbl_2 (List.mem_of_getElem? (i := 151) rfl), rfl⟩
theorem q_2_153 : Cond.instanceMethod yX0_clear ∈ gw := List.mem_filter.mpr ⟨tbl_2 (List.mem_of_getElem? (i := 153) rfl), rfl⟩
theorem q_2_154 : Cond.code yX0_clear prog_2_method_3_code 1 none ∈ gw := List.mem_filter.mpr ⟨tbl_2 (List.mem_of_getElem? (i := 154) rfl), rfl⟩
theorem q_2_155 : Cond.methodLink RX0 64 yJ7_fill_d0a16 ∈ gw := List.mem_filter.mpr ⟨tbl_2 (List.mem_of_getElem? (i := 155) rfl), rfl⟩
theorem q_2_156 : Cond.static yJ7_fill_d0a16 ∈ gw := List.mem_filter.mpr ⟨tbl_2 (List.mem_of_getElem? (i := 156) rfl), rfl⟩
theorem q_2_157 : Cond.code yJ7_fill_d0a16 prog_14_method_101_code 5 none ∈ gw := List.mem_filter.mpr ⟨tbl_2 (List.mem_of_getElem? (i := 157) rfl), rfl⟩
theorem q_2_158 : Cond.constantLong RX0 38 (182891520000) ∈ gw := List.mem_filter.mpr ⟨tbl_2 (List.mem_of_getElem? (i := 158) rfl), rfl⟩
theorem q_2_159 : Cond.methodLink RX0 40 yX3_allSeats ∈ gw := List.mem_filter.mpr ⟨tbl_2 (List.mem_of_getElem? (i := 159) rfl), rfl⟩
theorem q_2_160 : Cond.instanceMethod yX3_allSeats ∈ gw := List.mem_filter.mpr ⟨tbl_2 (List.mem_of_getElem? (i := 160) rfl), rfl⟩
theorem q_2_161 : Cond.selects RX3 yX3_allSeats yX3_allSeats ∈ gw := List.mem_filter.mpr ⟨tbl_2 (List.mem_of_getElem? (i := 161) rfl), rfl⟩
theorem q_2_162 : Cond.code yX3_allSeats prog_5_method_10_code 1 (some .int) ∈ gw := List.mem_filter.mpr ⟨tbl_2 (List.mem_of_getElem? (i := 162) rfl), rfl⟩
theorem q_2_163 : Cond.methodLink RX0 46 yJ6_bitCount_0f7a4 ∈ gw := List.mem_filter.mpr ⟨tbl_2 (List.mem_of_getElem? (i := 163) rfl), rfl⟩
theorem q_2_164 : Cond.static yJ6_bitCount_0f7a4 ∈ gw := List.mem_filter.mpr ⟨tbl_2 (List.mem_of_getElem? (i := 164) rfl), rfl⟩
theorem q_2_165 : Cond.code yJ6_bitCount_0f7a4 prog_11_method_49_code 1 (some .int) ∈ gw := List.mem_filter.mpr ⟨tbl_2 (List.mem_of_getElem? (i := 165) rfl), rfl⟩
theorem q_2_166 : Cond.constant RJ6 265 (1431655765) ∈ gw := List.mem_filter.mpr ⟨tbl_2 (List.mem_of_getElem? (i := 166) rfl), rfl⟩
theorem q_2_167 : Cond.constant RJ6 266 (858993459) ∈ gw := List.mem_filter.mpr ⟨tbl_2 (List.mem_of_getElem? (i := 167) rfl), rfl⟩
theorem q_2_168 : Cond.constant RJ6 267 (252645135) ∈ gw := List.mem_filter.mpr ⟨tbl_2 (List.mem_of_getElem? (i := 168) rfl), rfl⟩
theorem q_2_169 : Cond.methodLink RX0 52 yX0_goOn ∈ gw := List.mem_filter.mpr ⟨tbl_2 (List.mem_of_getElem? (i := 169) rfl), rfl⟩
theorem q_2_171 : Cond.instanceMethod yX0_goOn ∈ gw := List.mem_filter.mpr ⟨tbl_2 (List.mem_of_getElem? (i := 171) rfl), rfl⟩
theorem q_2_172 : Cond.code yX0_goOn prog_2_method_4_code 6 none ∈ gw := List.mem_filter.mpr ⟨tbl_2 (List.mem_of_getElem? (i := 172) rfl), rfl⟩
theorem q_2_173 : Cond.methodLink RX0 73 yX0_close ∈ gw := List.mem_filter.mpr ⟨tbl_2 (List.mem_of_getElem? (i := 173) rfl), rfl⟩
theorem q_2_175 : Cond.instanceMethod yX0_close ∈ gw := List.mem_filter.mpr ⟨tbl_2 (List.mem_of_getElem? (i := 175) rfl), rfl⟩
theorem q_2_176 : Cond.code yX0_close prog_2_method_6_code 4 none ∈ gw := List.mem_filter.mpr ⟨tbl_2 (List.mem_of_getElem? (i := 176) rfl), rfl⟩
theorem q_2_177 : Cond.methodLink RX0 90 yX3_has ∈ gw := List.mem_filter.mpr ⟨tbl_2 (List.mem_of_getElem? (i := 177) rfl), rfl⟩
theorem q_2_178 : Cond.static yX3_has ∈ gw := List.mem_filter.mpr ⟨tbl_2 (List.mem_of_getElem? (i := 178) rfl), rfl⟩
theorem q_2_179 : Cond.code yX3_has prog_5_method_20_code 2 (some .boolean) ∈ gw := List.mem_filter.mpr ⟨tbl_2 (List.mem_of_getElem? (i := 179) rfl), rfl⟩
theorem q_2_180 : Cond.methodLink RX0 83 yX3_choices ∈ gw := List.mem_filter.mpr ⟨tbl_2 (List.mem_of_getElem? (i := 180) rfl), rfl⟩
theorem q_2_181 : Cond.instanceMethod yX3_choices ∈ gw := List.mem_filter.mpr ⟨tbl_2 (List.mem_of_getElem? (i := 181) rfl), rfl⟩
theorem q_2_182 : Cond.selects RX3 yX3_choices yX3_choices ∈ gw := List.mem_filter.mpr ⟨tbl_2 (List.mem_of_getElem? (i := 182) rfl), rfl⟩
theorem q_2_183 : Cond.code yX3_choices prog_5_method_14_code 6 (some .int) ∈ gw := List.mem_filter.mpr ⟨tbl_2 (List.mem_of_getElem? (i := 183) rfl), rfl⟩
theorem q_2_184 : Cond.methodLink RX3 77 yX3_allSeats ∈ gw := List.mem_filter.mpr ⟨tbl_2 (List.mem_of_getElem? (i := 184) rfl), rfl⟩
theorem q_2_185 : Cond.methodLink RX3 81 yX3_has ∈ gw := List.mem_filter.mpr ⟨tbl_2 (List.mem_of_getElem? (i := 185) rfl), rfl⟩
theorem q_2_186 : Cond.methodLink RX3 85 yX3_nextFree ∈ gw := List.mem_filter.mpr ⟨tbl_2 (List.mem_of_getElem? (i := 186) rfl), rfl⟩
theorem q_2_188 : Cond.instanceMethod yX3_nextFree ∈ gw := List.mem_filter.mpr ⟨tbl_2 (List.mem_of_getElem? (i := 188) rfl), rfl⟩
theorem q_2_189 : Cond.code yX3_nextFree prog_5_method_15_code 6 (some .int) ∈ gw := List.mem_filter.mpr ⟨tbl_2 (List.mem_of_getElem? (i := 189) rfl), rfl⟩
theorem q_2_190 : Cond.methodLink RX0 94 yX0_sitDown ∈ gw := List.mem_filter.mpr ⟨tbl_2 (List.mem_of_getElem? (i := 190) rfl), rfl⟩
theorem q_2_192 : Cond.instanceMethod yX0_sitDown ∈ gw := List.mem_filter.mpr ⟨tbl_2 (List.mem_of_getElem? (i := 192) rfl), rfl⟩
theorem q_2_193 : Cond.code yX0_sitDown prog_2_method_5_code 11 none ∈ gw := List.mem_filter.mpr ⟨tbl_2 (List.mem_of_getElem? (i := 193) rfl), rfl⟩
theorem q_2_194 : Cond.methodLink RX0 98 yX3_passedOver ∈ gw := List.mem_filter.mpr ⟨tbl_2 (List.mem_of_getElem? (i := 194) rfl), rfl⟩
theorem q_2_195 : Cond.instanceMethod yX3_passedOver ∈ gw := List.mem_filter.mpr ⟨tbl_2 (List.mem_of_getElem? (i := 195) rfl), rfl⟩
theorem q_2_196 : Cond.selects RX3 yX3_passedOver yX3_passedOver ∈ gw := List.mem_filter.mpr ⟨tbl_2 (List.mem_of_getElem? (i := 196) rfl), rfl⟩
theorem q_2_197 : Cond.code yX3_passedOver prog_5_method_16_code 3 (some .int) ∈ gw := List.mem_filter.mpr ⟨tbl_2 (List.mem_of_getElem? (i := 197) rfl), rfl⟩
theorem q_2_198 : Cond.constantLong RX7 122 (182891520000) ∈ gw := List.mem_filter.mpr ⟨tbl_2 (List.mem_of_getElem? (i := 198) rfl), rfl⟩
theorem q_2_199 : Cond.methodLink RX7 124 yX7_part ∈ gw := List.mem_filter.mpr ⟨tbl_2 (List.mem_of_getElem? (i := 199) rfl), rfl⟩
theorem q_2_200 : Cond.static yX7_part ∈ gw := List.mem_filter.mpr ⟨tbl_2 (List.mem_of_getElem? (i := 200) rfl), rfl⟩
theorem q_2_201 : Cond.code yX7_part prog_1_method_49_code 7 (some .long) ∈ gw := List.mem_filter.mpr ⟨tbl_2 (List.mem_of_getElem? (i := 201) rfl), rfl⟩
theorem q_2_202 : Cond.methodLink RX7 358 yX7_commonDivisor ∈ gw := List.mem_filter.mpr ⟨tbl_2 (List.mem_of_getElem? (i := 202) rfl), rfl⟩
theorem q_2_203 : Cond.static yX7_commonDivisor ∈ gw := List.mem_filter.mpr ⟨tbl_2 (List.mem_of_getElem? (i := 203) rfl), rfl⟩
theorem q_2_204 : Cond.code yX7_commonDivisor prog_1_method_50_code 11 (some .long) ∈ gw := List.mem_filter.mpr ⟨tbl_2 (List.mem_of_getElem? (i := 204) rfl), rfl⟩
theorem q_2_205 : Cond.methodLink RL 40 yX7_taken ∈ gw := List.mem_filter.mpr ⟨tbl_2 (List.mem_of_getElem? (i := 205) rfl), rfl⟩
theorem q_2_206 : Cond.instanceMethod yX7_taken ∈ gw := List.mem_filter.mpr ⟨tbl_2 (List.mem_of_getElem? (i := 206) rfl), rfl⟩
theorem q_2_207 : Cond.selects RX7 yX7_taken yX7_taken ∈ gw := List.mem_filter.mpr ⟨tbl_2 (List.mem_of_getElem? (i := 207) rfl), rfl⟩
theorem q_2_208 : Cond.code yX7_taken prog_1_method_8_code 6 (some .long) ∈ gw := List.mem_filter.mpr ⟨tbl_2 (List.mem_of_getElem? (i := 208) rfl), rfl⟩
theorem q_2_209 : Cond.methodLink RX7 131 yX3_allSeats ∈ gw := List.mem_filter.mpr ⟨tbl_2 (List.mem_of_getElem? (i := 209) rfl), rfl⟩
theorem q_2_210 : Cond.methodLink RX7 135 yJ6_bitCount_0f7a4 ∈ gw := List.mem_filter.mpr ⟨tbl_2 (List.mem_of_getElem? (i := 210) rfl), rfl⟩
theorem q_2_211 : Cond.methodLink RL 44 yX7_wrong ∈ gw := List.mem_filter.mpr ⟨tbl_2 (List.mem_of_getElem? (i := 211) rfl), rfl⟩
theorem q_2_212 : Cond.instanceMethod yX7_wrong ∈ gw := List.mem_filter.mpr ⟨tbl_2 (List.mem_of_getElem? (i := 212) rfl), rfl⟩
theorem q_2_213 : Cond.selects RX7 yX7_wrong yX7_wrong ∈ gw := List.mem_filter.mpr ⟨tbl_2 (List.mem_of_getElem? (i := 213) rfl), rfl⟩
theorem q_2_214 : Cond.code yX7_wrong prog_1_method_9_code 3 (some .long) ∈ gw := List.mem_filter.mpr ⟨tbl_2 (List.mem_of_getElem? (i := 214) rfl), rfl⟩
theorem q_2_215 : Cond.methodLink RL 49 yX7_left ∈ gw := List.mem_filter.mpr ⟨tbl_2 (List.mem_of_getElem? (i := 215) rfl), rfl⟩
theorem q_2_216 : Cond.instanceMethod yX7_left ∈ gw := List.mem_filter.mpr ⟨tbl_2 (List.mem_of_getElem? (i := 216) rfl), rfl⟩
theorem q_2_217 : Cond.selects RX7 yX7_left yX7_left ∈ gw := List.mem_filter.mpr ⟨tbl_2 (List.mem_of_getElem? (i := 217) rfl), rfl⟩
theorem q_2_218 : Cond.code yX7_left prog_1_method_10_code 3 (some .long) ∈ gw := List.mem_filter.mpr ⟨tbl_2 (List.mem_of_getElem? (i := 218) rfl), rfl⟩
theorem q_2_219 : Cond.methodLink RL 53 yX7_looks ∈ gw := List.mem_filter.mpr ⟨tbl_2 (List.mem_of_getElem? (i := 219) rfl), rfl⟩
theorem q_2_220 : Cond.instanceMethod yX7_looks ∈ gw := List.mem_filter.mpr ⟨tbl_2 (List.mem_of_getElem? (i := 220) rfl), rfl⟩
theorem q_2_221 : Cond.selects RX7 yX7_looks yX7_looks ∈ gw := List.mem_filter.mpr ⟨tbl_2 (List.mem_of_getElem? (i := 221) rfl), rfl⟩
theorem q_2_222 : Cond.code yX7_looks prog_1_method_11_code 2 (some .long) ∈ gw := List.mem_filter.mpr ⟨tbl_2 (List.mem_of_getElem? (i := 222) rfl), rfl⟩
theorem q_2_223 : Cond.methodLink RL 58 yX7_judged ∈ gw := List.mem_filter.mpr ⟨tbl_2 (List.mem_of_getElem? (i := 223) rfl), rfl⟩
theorem q_2_224 : Cond.instanceMethod yX7_judged ∈ gw := List.mem_filter.mpr ⟨tbl_2 (List.mem_of_getElem? (i := 224) rfl), rfl⟩
theorem q_2_225 : Cond.selects RX7 yX7_judged yX7_judged ∈ gw := List.mem_filter.mpr ⟨tbl_2 (List.mem_of_getElem? (i := 225) rfl), rfl⟩
theorem q_2_226 : Cond.code yX7_judged prog_1_method_12_code 3 (some .int) ∈ gw := List.mem_filter.mpr ⟨tbl_2 (List.mem_of_getElem? (i := 226) rfl), rfl⟩
theorem q_2_227 : Cond.methodLink RX7 156 yX7_refuseSitting ∈ gw := List.mem_filter.mpr ⟨tbl_2 (List.mem_of_getElem? (i := 227) rfl), rfl⟩
theorem q_2_229 : Cond.instanceMethod yX7_refuseSitting ∈ gw := List.mem_filter.mpr ⟨tbl_2 (List.mem_of_getElem? (i := 229) rfl), rfl⟩
theorem q_2_230 : Cond.code yX7_refuseSitting prog_1_method_46_code 4 (some .int) ∈ gw := List.mem_filter.mpr ⟨tbl_2 (List.mem_of_getElem? (i := 230) rfl), rfl⟩
theorem q_2_231 : Cond.methodLink RX7 201 yX7_refuseSheet ∈ gw := List.mem_filter.mpr ⟨tbl_2 (List.mem_of_getElem? (i := 231) rfl), rfl⟩
theorem q_2_233 : Cond.instanceMethod yX7_refuseSheet ∈ gw := List.mem_filter.mpr ⟨tbl_2 (List.mem_of_getElem? (i := 233) rfl), rfl⟩
theorem q_2_234 : Cond.code yX7_refuseSheet prog_1_method_45_code 3 (some .int) ∈ gw := List.mem_filter.mpr ⟨tbl_2 (List.mem_of_getElem? (i := 234) rfl), rfl⟩
theorem q_2_235 : Cond.methodLink RX7 237 yX7_isNoSheet ∈ gw := List.mem_filter.mpr ⟨tbl_2 (List.mem_of_getElem? (i := 235) rfl), rfl⟩
theorem q_2_236 : Cond.static yX7_isNoSheet ∈ gw := List.mem_filter.mpr ⟨tbl_2 (List.mem_of_getElem? (i := 236) rfl), rfl⟩
theorem q_2_237 : Cond.code yX7_isNoSheet prog_1_method_42_code 1 (some .boolean) ∈ gw := List.mem_filter.mpr ⟨tbl_2 (List.mem_of_getElem? (i := 237) rfl), rfl⟩
theorem q_2_238 : Cond.methodLink RX7 243 yX7_find ∈ gw := List.mem_filter.mpr ⟨tbl_2 (List.mem_of_getElem? (i := 238) rfl), rfl⟩
theorem q_3_0 : Cond.instanceMethod yX7_find ∈ gw := List.mem_filter.mpr ⟨tbl_3 (List.mem_of_getElem? (i := 0) rfl), rfl⟩
theorem q_3_1 : Cond.code yX7_find prog_1_method_44_code 2 (some .int) ∈ gw := List.mem_filter.mpr ⟨tbl_3 (List.mem_of_getElem? (i := 1) rfl), rfl⟩
theorem q_3_2 : Cond.methodLink RX7 163 yX3_firstWhoCannot ∈ gw := List.mem_filter.mpr ⟨tbl_3 (List.mem_of_getElem? (i := 2) rfl), rfl⟩
theorem q_3_3 : Cond.instanceMethod yX3_firstWhoCannot ∈ gw := List.mem_filter.mpr ⟨tbl_3 (List.mem_of_getElem? (i := 3) rfl), rfl⟩
theorem q_3_4 : Cond.selects RX3 yX3_firstWhoCannot yX3_firstWhoCannot ∈ gw := List.mem_filter.mpr ⟨tbl_3 (List.mem_of_getElem? (i := 4) rfl), rfl⟩
theorem q_3_5 : Cond.code yX3_firstWhoCannot prog_5_method_17_code 5 (some .int) ∈ gw := List.mem_filter.mpr ⟨tbl_3 (List.mem_of_getElem? (i := 5) rfl), rfl⟩
theorem q_3_6 : Cond.methodLink RX3 89 yX3_choices ∈ gw := List.mem_filter.mpr ⟨tbl_3 (List.mem_of_getElem? (i := 6) rfl), rfl⟩
theorem q_3_7 : Cond.methodLink RX3 93 yX3_isIn ∈ gw := List.mem_filter.mpr ⟨tbl_3 (List.mem_of_getElem? (i := 7) rfl), rfl⟩
theorem q_3_9 : Cond.instanceMethod yX3_isIn ∈ gw := List.mem_filter.mpr ⟨tbl_3 (List.mem_of_getElem? (i := 9) rfl), rfl⟩
theorem q_3_10 : Cond.code yX3_isIn prog_5_method_19_code 3 (some .boolean) ∈ gw := List.mem_filter.mpr ⟨tbl_3 (List.mem_of_getElem? (i := 10) rfl), rfl⟩
theorem q_3_11 : Cond.methodLink RL 62 yX7_sitting ∈ gw := List.mem_filter.mpr ⟨tbl_3 (List.mem_of_getElem? (i := 11) rfl), rfl⟩
theorem q_3_12 : Cond.instanceMethod yX7_sitting ∈ gw := List.mem_filter.mpr ⟨tbl_3 (List.mem_of_getElem? (i := 12) rfl), rfl⟩
theorem q_3_13 : Cond.selects RX7 yX7_sitting yX7_sitting ∈ gw := List.mem_filter.mpr ⟨tbl_3 (List.mem_of_getElem? (i := 13) rfl), rfl⟩
theorem q_3_14 : Cond.code yX7_sitting prog_1_method_13_code 4 (some .long) ∈ gw := List.mem_filter.mpr ⟨tbl_3 (List.mem_of_getElem? (i := 14) rfl), rfl⟩
theorem q_3_15 : Cond.methodLink RX7 167 yX3_chanceOf ∈ gw := List.mem_filter.mpr ⟨tbl_3 (List.mem_of_getElem? (i := 15) rfl), rfl⟩
theorem q_3_16 : Cond.instanceMethod yX3_chanceOf ∈ gw := List.mem_filter.mpr ⟨tbl_3 (List.mem_of_getElem? (i := 16) rfl), rfl⟩
theorem q_3_17 : Cond.selects RX3 yX3_chanceOf yX3_chanceOf ∈ gw := List.mem_filter.mpr ⟨tbl_3 (List.mem_of_getElem? (i := 17) rfl), rfl⟩
theorem q_3_18 : Cond.code yX3_chanceOf prog_5_method_18_code 8 (some .long) ∈ gw := List.mem_filter.mpr ⟨tbl_3 (List.mem_of_getElem? (i := 18) rfl), rfl⟩
theorem q_3_19 : Cond.constantLong RX3 96 (182891520000) ∈ gw := List.mem_filter.mpr ⟨tbl_3 (List.mem_of_getElem? (i := 19) rfl), rfl⟩
theorem q_3_20 : Cond.methodLink RX3 98 yJ6_bitCount_0f7a4 ∈ gw := List.mem_filter.mpr ⟨tbl_3 (List.mem_of_getElem? (i := 20) rfl), rfl⟩
theorem q_3_21 : Cond.methodLink RL 66 yX7_order ∈ gw := List.mem_filter.mpr ⟨tbl_3 (List.mem_of_getElem? (i := 21) rfl), rfl⟩
theorem q_3_22 : Cond.instanceMethod yX7_order ∈ gw := List.mem_filter.mpr ⟨tbl_3 (List.mem_of_getElem? (i := 22) rfl), rfl⟩
theorem q_3_23 : Cond.selects RX7 yX7_order yX7_order ∈ gw := List.mem_filter.mpr ⟨tbl_3 (List.mem_of_getElem? (i := 23) rfl), rfl⟩
theorem q_3_24 : Cond.code yX7_order prog_1_method_14_code 2 (some .int) ∈ gw := List.mem_filter.mpr ⟨tbl_3 (List.mem_of_getElem? (i := 24) rfl), rfl⟩
theorem q_3_25 : Cond.methodLink RX7 171 yX1_refresh ∈ gw := List.mem_filter.mpr ⟨tbl_3 (List.mem_of_getElem? (i := 25) rfl), rfl⟩
theorem q_3_26 : Cond.instanceMethod yX1_refresh ∈ gw := List.mem_filter.mpr ⟨tbl_3 (List.mem_of_getElem? (i := 26) rfl), rfl⟩
theorem q_3_27 : Cond.selects RX1 yX1_refresh yX1_refresh ∈ gw := List.mem_filter.mpr ⟨tbl_3 (List.mem_of_getElem? (i := 27) rfl), rfl⟩
theorem q_3_28 : Cond.code yX1_refresh prog_3_method_2_code 1 none ∈ gw := List.mem_filter.mpr ⟨tbl_3 (List.mem_of_getElem? (i := 28) rfl), rfl⟩
theorem q_3_29 : Cond.constantLong RX1 41 (9223372036854775807) ∈ gw := List.mem_filter.mpr ⟨tbl_3 (List.mem_of_getElem? (i := 29) rfl), rfl⟩
theorem q_3_30 : Cond.constantLong RX1 47 (182891520000) ∈ gw := List.mem_filter.mpr ⟨tbl_3 (List.mem_of_getElem? (i := 30) rfl), rfl⟩
theorem q_3_31 : Cond.methodLink RX1 49 yX1_letIn ∈ gw := List.mem_filter.mpr ⟨tbl_3 (List.mem_of_getElem? (i := 31) rfl), rfl⟩
theorem q_3_33 : Cond.instanceMethod yX1_letIn ∈ gw := List.mem_filter.mpr ⟨tbl_3 (List.mem_of_getElem? (i := 33) rfl), rfl⟩
theorem q_3_34 : Cond.code yX1_letIn prog_3_method_3_code 8 none ∈ gw := List.mem_filter.mpr ⟨tbl_3 (List.mem_of_getElem? (i := 34) rfl), rfl⟩
theorem q_3_35 : Cond.methodLink RX1 53 yX1_keep ∈ gw := List.mem_filter.mpr ⟨tbl_3 (List.mem_of_getElem? (i := 35) rfl), rfl⟩
theorem q_3_37 : Cond.instanceMethod yX1_keep ∈ gw := List.mem_filter.mpr ⟨tbl_3 (List.mem_of_getElem? (i := 37) rfl), rfl⟩
theorem q_3_38 : Cond.code yX1_keep prog_3_method_6_code 3 none ∈ gw := List.mem_filter.mpr ⟨tbl_3 (List.mem_of_getElem? (i := 38) rfl), rfl⟩
theorem q_3_39 : Cond.methodLink RX1 85 arraycopyName ∈ gw := List.mem_filter.mpr ⟨tbl_3 (List.mem_of_getElem? (i := 39) rfl), rfl⟩
theorem q_3_40 : Cond.static arraycopyName ∈ gw := List.mem_filter.mpr ⟨tbl_3 (List.mem_of_getElem? (i := 40) rfl), rfl⟩
theorem q_3_41 : Cond.native arraycopyName ∈ gw := List.mem_filter.mpr ⟨tbl_3 (List.mem_of_getElem? (i := 41) rfl), rfl⟩
theorem q_3_42 : Cond.methodLink RX1 57 yX1_leastToCome ∈ gw := List.mem_filter.mpr ⟨tbl_3 (List.mem_of_getElem? (i := 42) rfl), rfl⟩
theorem q_3_44 : Cond.instanceMethod yX1_leastToCome ∈ gw := List.mem_filter.mpr ⟨tbl_3 (List.mem_of_getElem? (i := 44) rfl), rfl⟩
theorem q_3_45 : Cond.code yX1_leastToCome prog_3_method_8_code 7 (some .long) ∈ gw := List.mem_filter.mpr ⟨tbl_3 (List.mem_of_getElem? (i := 45) rfl), rfl⟩
theorem q_3_46 : Cond.methodLink RX1 68 yX3_has ∈ gw := List.mem_filter.mpr ⟨tbl_3 (List.mem_of_getElem? (i := 46) rfl), rfl⟩
theorem q_3_47 : Cond.methodLink RX1 97 yX1_wrongAmong ∈ gw := List.mem_filter.mpr ⟨tbl_3 (List.mem_of_getElem? (i := 47) rfl), rfl⟩
theorem q_3_49 : Cond.instanceMethod yX1_wrongAmong ∈ gw := List.mem_filter.mpr ⟨tbl_3 (List.mem_of_getElem? (i := 49) rfl), rfl⟩
theorem q_3_50 : Cond.code yX1_wrongAmong prog_3_method_10_code 6 (some .long) ∈ gw := List.mem_filter.mpr ⟨tbl_3 (List.mem_of_getElem? (i := 50) rfl), rfl⟩
theorem q_3_51 : Cond.methodLink RX1 61 yX1_onlyLostOutside ∈ gw := List.mem_filter.mpr ⟨tbl_3 (List.mem_of_getElem? (i := 51) rfl), rfl⟩
theorem q_3_53 : Cond.instanceMethod yX1_onlyLostOutside ∈ gw := List.mem_filter.mpr ⟨tbl_3 (List.mem_of_getElem? (i := 53) rfl), rfl⟩
theorem q_3_54 : Cond.code yX1_onlyLostOutside prog_3_method_4_code 3 (some .boolean) ∈ gw := List.mem_filter.mpr ⟨tbl_3 (List.mem_of_getElem? (i := 54) rfl), rfl⟩
theorem q_3_55 : Cond.methodLink RX1 65 yX1_letInLost ∈ gw := List.mem_filter.mpr ⟨tbl_3 (List.mem_of_getElem? (i := 55) rfl), rfl⟩
theorem q_3_57 : Cond.instanceMethod yX1_letInLost ∈ gw := List.mem_filter.mpr ⟨tbl_3 (List.mem_of_getElem? (i := 57) rfl), rfl⟩
theorem q_3_58 : Cond.code yX1_letInLost prog_3_method_5_code 9 none ∈ gw := List.mem_filter.mpr ⟨tbl_3 (List.mem_of_getElem? (i := 58) rfl), rfl⟩
theorem q_3_59 : Cond.methodLink RX1 75 yX1_wrongNext ∈ gw := List.mem_filter.mpr ⟨tbl_3 (List.mem_of_getElem? (i := 59) rfl), rfl⟩
theorem q_3_61 : Cond.instanceMethod yX1_wrongNext ∈ gw := List.mem_filter.mpr ⟨tbl_3 (List.mem_of_getElem? (i := 61) rfl), rfl⟩
theorem q_3_62 : Cond.code yX1_wrongNext prog_3_method_9_code 3 (some .long) ∈ gw := List.mem_filter.mpr ⟨tbl_3 (List.mem_of_getElem? (i := 62) rfl), rfl⟩
theorem q_3_63 : Cond.methodLink RX1 72 yX1_hasTwinOutside ∈ gw := List.mem_filter.mpr ⟨tbl_3 (List.mem_of_getElem? (i := 63) rfl), rfl⟩
theorem q_3_65 : Cond.instanceMethod yX1_hasTwinOutside ∈ gw := List.mem_filter.mpr ⟨tbl_3 (List.mem_of_getElem? (i := 65) rfl), rfl⟩
theorem q_3_66 : Cond.code yX1_hasTwinOutside prog_3_method_7_code 4 (some .boolean) ∈ gw := List.mem_filter.mpr ⟨tbl_3 (List.mem_of_getElem? (i := 66) rfl), rfl⟩
theorem q_3_67 : Cond.methodLink RX1 78 yX1_seatNext ∈ gw := List.mem_filter.mpr ⟨tbl_3 (List.mem_of_getElem? (i := 67) rfl), rfl⟩
theorem q_3_69 : Cond.instanceMethod yX1_seatNext ∈ gw := List.mem_filter.mpr ⟨tbl_3 (List.mem_of_getElem? (i := 69) rfl), rfl⟩
theorem q_3_70 : Cond.code yX1_seatNext prog_3_method_11_code 6 none ∈ gw := List.mem_filter.mpr ⟨tbl_3 (List.mem_of_getElem? (i := 70) rfl), rfl⟩
theorem q_3_71 : Cond.methodLink RX1 101 yX1_clearSets ∈ gw := List.mem_filter.mpr ⟨tbl_3 (List.mem_of_getElem? (i := 71) rfl), rfl⟩
theorem q_3_73 : Cond.instanceMethod yX1_clearSets ∈ gw := List.mem_filter.mpr ⟨tbl_3 (List.mem_of_getElem? (i := 73) rfl), rfl⟩
theorem q_3_74 : Cond.code yX1_clearSets prog_3_method_13_code 4 none ∈ gw := List.mem_filter.mpr ⟨tbl_3 (List.mem_of_getElem? (i := 74) rfl), rfl⟩
theorem q_3_75 : Cond.methodLink RX1 108 yX3_allSeats ∈ gw := List.mem_filter.mpr ⟨tbl_3 (List.mem_of_getElem? (i := 75) rfl), rfl⟩
theorem q_3_76 : Cond.methodLink RX1 120 yX1_nextAsLarge ∈ gw := List.mem_filter.mpr ⟨tbl_3 (List.mem_of_getElem? (i := 76) rfl), rfl⟩
theorem q_3_77 : Cond.static yX1_nextAsLarge ∈ gw := List.mem_filter.mpr ⟨tbl_3 (List.mem_of_getElem? (i := 77) rfl), rfl⟩
theorem q_3_78 : Cond.code yX1_nextAsLarge prog_3_method_15_code 3 (some .int) ∈ gw := List.mem_filter.mpr ⟨tbl_3 (List.mem_of_getElem? (i := 78) rfl), rfl⟩
theorem q_3_79 : Cond.methodLink RX1 105 yX1_copyTaken ∈ gw := List.mem_filter.mpr ⟨tbl_3 (List.mem_of_getElem? (i := 79) rfl), rfl⟩
theorem q_3_81 : Cond.instanceMethod yX1_copyTaken ∈ gw := List.mem_filter.mpr ⟨tbl_3 (List.mem_of_getElem? (i := 81) rfl), rfl⟩
theorem q_3_82 : Cond.code yX1_copyTaken prog_3_method_12_code 4 none ∈ gw := List.mem_filter.mpr ⟨tbl_3 (List.mem_of_getElem? (i := 82) rfl), rfl⟩
theorem q_3_83 : Cond.methodLink RX1 112 yX3_choices ∈ gw := List.mem_filter.mpr ⟨tbl_3 (List.mem_of_getElem? (i := 83) rfl), rfl⟩
theorem q_3_84 : Cond.methodLink RX1 116 yX1_spread ∈ gw := List.mem_filter.mpr ⟨tbl_3 (List.mem_of_getElem? (i := 84) rfl), rfl⟩
theorem q_3_86 : Cond.instanceMethod yX1_spread ∈ gw := List.mem_filter.mpr ⟨tbl_3 (List.mem_of_getElem? (i := 86) rfl), rfl⟩
theorem q_3_87 : Cond.code yX1_spread prog_3_method_14_code 8 none ∈ gw := List.mem_filter.mpr ⟨tbl_3 (List.mem_of_getElem? (i := 87) rfl), rfl⟩
theorem q_3_88 : Cond.methodLink RX1 124 yJ6_bitCount_0f7a4 ∈ gw := List.mem_filter.mpr ⟨tbl_3 (List.mem_of_getElem? (i := 88) rfl), rfl⟩
theorem q_3_89 : Cond.methodLink RL 70 yX7_best ∈ gw := List.mem_filter.mpr ⟨tbl_3 (List.mem_of_getElem? (i := 89) rfl), rfl⟩
theorem q_3_90 : Cond.instanceMethod yX7_best ∈ gw := List.mem_filter.mpr ⟨tbl_3 (List.mem_of_getElem? (i := 90) rfl), rfl⟩
theorem q_3_91 : Cond.selects RX7 yX7_best yX7_best ∈ gw := List.mem_filter.mpr ⟨tbl_3 (List.mem_of_getElem? (i := 91) rfl), rfl⟩
theorem q_3_92 : Cond.code yX7_best prog_1_method_15_code 2 (some .long) ∈ gw := List.mem_filter.mpr ⟨tbl_3 (List.mem_of_getElem? (i := 92) rfl), rfl⟩
theorem q_3_93 : Cond.methodLink RL 74 yX7_back ∈ gw := List.mem_filter.mpr ⟨tbl_3 (List.mem_of_getElem? (i := 93) rfl), rfl⟩
theorem q_3_94 : Cond.instanceMethod yX7_back ∈ gw := List.mem_filter.mpr ⟨tbl_3 (List.mem_of_getElem? (i := 94) rfl), rfl⟩
theorem q_3_95 : Cond.selects RX7 yX7_back yX7_back ∈ gw := List.mem_filter.mpr ⟨tbl_3 (List.mem_of_getElem? (i := 95) rfl), rfl⟩
theorem q_3_96 : Cond.code yX7_back prog_1_method_16_code 4 (some .int) ∈ gw := List.mem_filter.mpr ⟨tbl_3 (List.mem_of_getElem? (i := 96) rfl), rfl⟩
theorem q_3_97 : Cond.methodLink RX7 178 yX4_follow ∈ gw := List.mem_filter.mpr ⟨tbl_3 (List.mem_of_getElem? (i := 97) rfl), rfl⟩
theorem q_3_98 : Cond.instanceMethod yX4_follow ∈ gw := List.mem_filter.mpr ⟨tbl_3 (List.mem_of_getElem? (i := 98) rfl), rfl⟩
theorem q_3_99 : Cond.selects RX4 yX4_follow yX4_follow ∈ gw := List.mem_filter.mpr ⟨tbl_3 (List.mem_of_getElem? (i := 99) rfl), rfl⟩
theorem q_3_100 : Cond.code yX4_follow prog_6_method_2_code 3 (some .boolean) ∈ gw := List.mem_filter.mpr ⟨tbl_3 (List.mem_of_getElem? (i := 100) rfl), rfl⟩
theorem q_3_101 : Cond.methodLink RX4 19 yX4_isWhole ∈ gw := List.mem_filter.mpr ⟨tbl_3 (List.mem_of_getElem? (i := 101) rfl), rfl⟩
theorem q_3_103 : Cond.instanceMethod yX4_isWhole ∈ gw := List.mem_filter.mpr ⟨tbl_3 (List.mem_of_getElem? (i := 103) rfl), rfl⟩
theorem q_3_104 : Cond.code yX4_isWhole prog_6_method_3_code 5 (some .boolean) ∈ gw := List.mem_filter.mpr ⟨tbl_3 (List.mem_of_getElem? (i := 104) rfl), rfl⟩
theorem q_3_105 : Cond.methodLink RX4 38 yX3_allSeats ∈ gw := List.mem_filter.mpr ⟨tbl_3 (List.mem_of_getElem? (i := 105) rfl), rfl⟩
theorem q_3_106 : Cond.methodLink RX4 32 yX4_countRings ∈ gw := List.mem_filter.mpr ⟨tbl_3 (List.mem_of_getElem? (i := 106) rfl), rfl⟩
theorem q_3_108 : Cond.instanceMethod yX4_countRings ∈ gw := List.mem_filter.mpr ⟨tbl_3 (List.mem_of_getElem? (i := 108) rfl), rfl⟩
theorem q_3_109 : Cond.code yX4_countRings prog_6_method_4_code 5 none ∈ gw := List.mem_filter.mpr ⟨tbl_3 (List.mem_of_getElem? (i := 109) rfl), rfl⟩
theorem q_3_110 : Cond.methodLink RX4 51 yX3_has ∈ gw := List.mem_filter.mpr ⟨tbl_3 (List.mem_of_getElem? (i := 110) rfl), rfl⟩
theorem q_3_111 : Cond.methodLink RX4 55 yJ9_max_7cf53 ∈ gw := List.mem_filter.mpr ⟨tbl_3 (List.mem_of_getElem? (i := 111) rfl), rfl⟩
theorem q_3_112 : Cond.static yJ9_max_7cf53 ∈ gw := List.mem_filter.mpr ⟨tbl_3 (List.mem_of_getElem? (i := 112) rfl), rfl⟩
theorem q_3_113 : Cond.code yJ9_max_7cf53 prog_12_method_65_code 2 (some .int) ∈ gw := List.mem_filter.mpr ⟨tbl_3 (List.mem_of_getElem? (i := 113) rfl), rfl⟩
theorem q_3_114 : Cond.methodLink RX7 188 yX4_rounds ∈ gw := List.mem_filter.mpr ⟨tbl_3 (List.mem_of_getElem? (i := 114) rfl), rfl⟩
theorem q_3_115 : Cond.instanceMethod yX4_rounds ∈ gw := List.mem_filter.mpr ⟨tbl_3 (List.mem_of_getElem? (i := 115) rfl), rfl⟩
theorem q_3_116 : Cond.selects RX4 yX4_rounds yX4_rounds ∈ gw := List.mem_filter.mpr ⟨tbl_3 (List.mem_of_getElem? (i := 116) rfl), rfl⟩
theorem q_3_117 : Cond.code yX4_rounds prog_6_method_5_code 1 (some .int) ∈ gw := List.mem_filter.mpr ⟨tbl_3 (List.mem_of_getElem? (i := 117) rfl), rfl⟩
theorem q_3_118 : Cond.methodLink RL 78 yX7_seen ∈ gw := List.mem_filter.mpr ⟨tbl_3 (List.mem_of_getElem? (i := 118) rfl), rfl⟩
theorem q_3_119 : Cond.instanceMethod yX7_seen ∈ gw := List.mem_filter.mpr ⟨tbl_3 (List.mem_of_getElem? (i := 119) rfl), rfl⟩
theorem q_3_120 : Cond.selects RX7 yX7_seen yX7_seen ∈ gw := List.mem_filter.mpr ⟨tbl_3 (List.mem_of_getElem? (i := 120) rfl), rfl⟩
theorem q_3_121 : Cond.code yX7_seen prog_1_method_17_code 3 (some .int) ∈ gw := List.mem_filter.mpr ⟨tbl_3 (List.mem_of_getElem? (i := 121) rfl), rfl⟩
theorem q_3_122 : Cond.methodLink RX7 191 yX6_mayTell ∈ gw := List.mem_filter.mpr ⟨tbl_3 (List.mem_of_getElem? (i := 122) rfl), rfl⟩
theorem q_3_123 : Cond.instanceMethod yX6_mayTell ∈ gw := List.mem_filter.mpr ⟨tbl_3 (List.mem_of_getElem? (i := 123) rfl), rfl⟩
theorem q_3_124 : Cond.selects RX6 yX6_mayTell yX6_mayTell ∈ gw := List.mem_filter.mpr ⟨tbl_3 (List.mem_of_getElem? (i := 124) rfl), rfl⟩
theorem q_3_125 : Cond.code yX6_mayTell prog_8_method_2_code 3 (some .boolean) ∈ gw := List.mem_filter.mpr ⟨tbl_3 (List.mem_of_getElem? (i := 125) rfl), rfl⟩
theorem q_3_126 : Cond.methodLink RX7 198 yX6_tell ∈ gw := List.mem_filter.mpr ⟨tbl_3 (List.mem_of_getElem? (i := 126) rfl), rfl⟩
theorem q_3_127 : Cond.instanceMethod yX6_tell ∈ gw := List.mem_filter.mpr ⟨tbl_3 (List.mem_of_getElem? (i := 127) rfl), rfl⟩
theorem q_3_128 : Cond.selects RX6 yX6_tell yX6_tell ∈ gw := List.mem_filter.mpr ⟨tbl_3 (List.mem_of_getElem? (i := 128) rfl), rfl⟩
theorem q_3_129 : Cond.code yX6_tell prog_8_method_3_code 3 none ∈ gw := List.mem_filter.mpr ⟨tbl_3 (List.mem_of_getElem? (i := 129) rfl), rfl⟩
theorem q_3_130 : Cond.methodLink RL 82 yX7_read ∈ gw := List.mem_filter.mpr ⟨tbl_3 (List.mem_of_getElem? (i := 130) rfl), rfl⟩
theorem q_3_131 : Cond.instanceMethod yX7_read ∈ gw := List.mem_filter.mpr ⟨tbl_3 (List.mem_of_getElem? (i := 131) rfl), rfl⟩
theorem q_3_132 : Cond.selects RX7 yX7_read yX7_read ∈ gw := List.mem_filter.mpr ⟨tbl_3 (List.mem_of_getElem? (i := 132) rfl), rfl⟩
theorem q_3_133 : Cond.code yX7_read prog_1_method_18_code 6 (some .int) ∈ gw := List.mem_filter.mpr ⟨tbl_3 (List.mem_of_getElem? (i := 133) rfl), rfl⟩
theorem q_3_134 : Cond.methodLink RL 86 yX7_forget ∈ gw := List.mem_filter.mpr ⟨tbl_3 (List.mem_of_getElem? (i := 134) rfl), rfl⟩
theorem q_3_135 : Cond.instanceMethod yX7_forget ∈ gw := List.mem_filter.mpr ⟨tbl_3 (List.mem_of_getElem? (i := 135) rfl), rfl⟩
theorem q_3_136 : Cond.selects RX7 yX7_forget yX7_forget ∈ gw := List.mem_filter.mpr ⟨tbl_3 (List.mem_of_getElem? (i := 136) rfl), rfl⟩
theorem q_3_137 : Cond.code yX7_forget prog_1_method_19_code 2 (some .int) ∈ gw := List.mem_filter.mpr ⟨tbl_3 (List.mem_of_getElem? (i := 137) rfl), rfl⟩
theorem q_3_138 : Cond.methodLink RX7 205 yX6_clear ∈ gw := List.mem_filter.mpr ⟨tbl_3 (List.mem_of_getElem? (i := 138) rfl), rfl⟩
theorem q_3_139 : Cond.instanceMethod yX6_clear ∈ gw := List.mem_filter.mpr ⟨tbl_3 (List.mem_of_getElem? (i := 139) rfl), rfl⟩
theorem q_3_140 : Cond.selects RX6 yX6_clear yX6_clear ∈ gw := List.mem_filter.mpr ⟨tbl_3 (List.mem_of_getElem? (i := 140) rfl), rfl⟩
theorem q_3_141 : Cond.code yX6_clear prog_8_method_4_code 1 none ∈ gw := List.mem_filter.mpr ⟨tbl_3 (List.mem_of_getElem? (i := 141) rfl), rfl⟩
theorem q_3_142 : Cond.methodLink RL 91 yX7_losers ∈ gw := List.mem_filter.mpr ⟨tbl_3 (List.mem_of_getElem? (i := 142) rfl), rfl⟩
theorem q_3_143 : Cond.instanceMethod yX7_losers ∈ gw := List.mem_filter.mpr ⟨tbl_3 (List.mem_of_getElem? (i := 143) rfl), rfl⟩
theorem q_3_144 : Cond.selects RX7 yX7_losers yX7_losers ∈ gw := List.mem_filter.mpr ⟨tbl_3 (List.mem_of_getElem? (i := 144) rfl), rfl⟩
theorem q_3_145 : Cond.code yX7_losers prog_1_method_20_code 1 (some .int) ∈ gw := List.mem_filter.mpr ⟨tbl_3 (List.mem_of_getElem? (i := 145) rfl), rfl⟩
theorem q_3_146 : Cond.methodLink RX7 208 yX6_refresh ∈ gw := List.mem_filter.mpr ⟨tbl_3 (List.mem_of_getElem? (i := 146) rfl), rfl⟩
theorem q_3_147 : Cond.instanceMethod yX6_refresh ∈ gw := List.mem_filter.mpr ⟨tbl_3 (List.mem_of_getElem? (i := 147) rfl), rfl⟩
theorem q_3_148 : Cond.selects RX6 yX6_refresh yX6_refresh ∈ gw := List.mem_filter.mpr ⟨tbl_3 (List.mem_of_getElem? (i := 148) rfl), rfl⟩
theorem q_3_149 : Cond.code yX6_refresh prog_8_method_5_code 2 none ∈ gw := List.mem_filter.mpr ⟨tbl_3 (List.mem_of_getElem? (i := 149) rfl), rfl⟩
theorem q_3_150 : Cond.methodLink RX6 46 yJ7_fill_d0a16 ∈ gw := List.mem_filter.mpr ⟨tbl_3 (List.mem_of_getElem? (i := 150) rfl), rfl⟩
theorem q_3_151 : Cond.methodLink RX6 52 yJ7_fill_53178 ∈ gw := List.mem_filter.mpr ⟨tbl_3 (List.mem_of_getElem? (i := 151) rfl), rfl⟩
theorem q_3_152 : Cond.methodLink RX6 62 yX6_narrow ∈ gw := List.mem_filter.mpr ⟨tbl_3 (List.mem_of_getElem? (i := 152) rfl), rfl⟩
theorem q_3_154 : Cond.instanceMethod yX6_narrow ∈ gw := List.mem_filter.mpr ⟨tbl_3 (List.mem_of_getElem? (i := 154) rfl), rfl⟩
theorem q_3_155 : Cond.code yX6_narrow prog_8_method_6_code 2 none ∈ gw := List.mem_filter.mpr ⟨tbl_3 (List.mem_of_getElem? (i := 155) rfl), rfl⟩
theorem q_3_156 : Cond.methodLink RX6 75 yX3_allSeats ∈ gw := List.mem_filter.mpr ⟨tbl_3 (List.mem_of_getElem? (i := 156) rfl), rfl⟩
theorem q_3_157 : Cond.methodLink RX6 82 yX6_forbid ∈ gw := List.mem_filter.mpr ⟨tbl_3 (List.mem_of_getElem? (i := 157) rfl), rfl⟩
theorem q_3_159 : Cond.instanceMethod yX6_forbid ∈ gw := List.mem_filter.mpr ⟨tbl_3 (List.mem_of_getElem? (i := 159) rfl), rfl⟩
theorem q_3_160 : Cond.code yX6_forbid prog_8_method_7_code 3 none ∈ gw := List.mem_filter.mpr ⟨tbl_3 (List.mem_of_getElem? (i := 160) rfl), rfl⟩
theorem q_3_161 : Cond.methodLink RX6 71 yX6_suspect ∈ gw := List.mem_filter.mpr ⟨tbl_3 (List.mem_of_getElem? (i := 161) rfl), rfl⟩
theorem q_3_163 : Cond.instanceMethod yX6_suspect ∈ gw := List.mem_filter.mpr ⟨tbl_3 (List.mem_of_getElem? (i := 163) rfl), rfl⟩
theorem q_3_164 : Cond.code yX6_suspect prog_8_method_8_code 2 none ∈ gw := List.mem_filter.mpr ⟨tbl_3 (List.mem_of_getElem? (i := 164) rfl), rfl⟩
theorem q_3_165 : Cond.methodLink RX6 85 arraycopyName ∈ gw := List.mem_filter.mpr ⟨tbl_3 (List.mem_of_getElem? (i := 165) rfl), rfl⟩
theorem q_3_166 : Cond.methodLink RX6 91 yX6_walkForward ∈ gw := List.mem_filter.mpr ⟨tbl_3 (List.mem_of_getElem? (i := 166) rfl), rfl⟩
theorem q_3_168 : Cond.instanceMethod yX6_walkForward ∈ gw := List.mem_filter.mpr ⟨tbl_3 (List.mem_of_getElem? (i := 168) rfl), rfl⟩
theorem q_3_169 : Cond.code yX6_walkForward prog_8_method_9_code 5 none ∈ gw := List.mem_filter.mpr ⟨tbl_3 (List.mem_of_getElem? (i := 169) rfl), rfl⟩
theorem q_3_170 : Cond.constantLong RX6 101 (182891520000) ∈ gw := List.mem_filter.mpr ⟨tbl_3 (List.mem_of_getElem? (i := 170) rfl), rfl⟩
theorem q_3_171 : Cond.methodLink RX6 103 yJ6_bitCount_0f7a4 ∈ gw := List.mem_filter.mpr ⟨tbl_3 (List.mem_of_getElem? (i := 171) rfl), rfl⟩
theorem q_3_172 : Cond.methodLink RX6 112 yX3_choices ∈ gw := List.mem_filter.mpr ⟨tbl_3 (List.mem_of_getElem? (i := 172) rfl), rfl⟩
theorem q_3_173 : Cond.methodLink RX6 116 yX6_spread ∈ gw := List.mem_filter.mpr ⟨tbl_3 (List.mem_of_getElem? (i := 173) rfl), rfl⟩
theorem q_3_175 : Cond.instanceMethod yX6_spread ∈ gw := List.mem_filter.mpr ⟨tbl_3 (List.mem_of_getElem? (i := 175) rfl), rfl⟩
theorem q_3_176 : Cond.code yX6_spread prog_8_method_10_code 7 none ∈ gw := List.mem_filter.mpr ⟨tbl_3 (List.mem_of_getElem? (i := 176) rfl), rfl⟩
theorem q_3_177 : Cond.methodLink RX6 120 yX3_has ∈ gw := List.mem_filter.mpr ⟨tbl_3 (List.mem_of_getElem? (i := 177) rfl), rfl⟩
theorem q_3_178 : Cond.methodLink RX6 94 yX6_weightAtLast ∈ gw := List.mem_filter.mpr ⟨tbl_3 (List.mem_of_getElem? (i := 178) rfl), rfl⟩
theorem q_3_180 : Cond.instanceMethod yX6_weightAtLast ∈ gw := List.mem_filter.mpr ⟨tbl_3 (List.mem_of_getElem? (i := 180) rfl), rfl⟩
theorem q_3_181 : Cond.code yX6_weightAtLast prog_8_method_11_code 5 (some .long) ∈ gw := List.mem_filter.mpr ⟨tbl_3 (List.mem_of_getElem? (i := 181) rfl), rfl⟩
theorem q_3_182 : Cond.methodLink RX6 98 yX6_walkBackward ∈ gw := List.mem_filter.mpr ⟨tbl_3 (List.mem_of_getElem? (i := 182) rfl), rfl⟩
theorem q_3_184 : Cond.instanceMethod yX6_walkBackward ∈ gw := List.mem_filter.mpr ⟨tbl_3 (List.mem_of_getElem? (i := 184) rfl), rfl⟩
theorem q_3_185 : Cond.code yX6_walkBackward prog_8_method_12_code 6 none ∈ gw := List.mem_filter.mpr ⟨tbl_3 (List.mem_of_getElem? (i := 185) rfl), rfl⟩
theorem q_3_186 : Cond.methodLink RX6 124 yX6_waysOn ∈ gw := List.mem_filter.mpr ⟨tbl_3 (List.mem_of_getElem? (i := 186) rfl), rfl⟩
theorem q_3_188 : Cond.instanceMethod yX6_waysOn ∈ gw := List.mem_filter.mpr ⟨tbl_3 (List.mem_of_getElem? (i := 188) rfl), rfl⟩
theorem q_3_189 : Cond.code yX6_waysOn prog_8_method_13_code 5 (some .int) ∈ gw := List.mem_filter.mpr ⟨tbl_3 (List.mem_of_getElem? (i := 189) rfl), rfl⟩
theorem q_3_190 : Cond.methodLink RL 95 yX7_share ∈ gw := List.mem_filter.mpr ⟨tbl_3 (List.mem_of_getElem? (i := 190) rfl), rfl⟩
theorem q_3_191 : Cond.instanceMethod yX7_share ∈ gw := List.mem_filter.mpr ⟨tbl_3 (List.mem_of_getElem? (i := 191) rfl), rfl⟩
theorem q_3_192 : Cond.selects RX7 yX7_share yX7_share ∈ gw := List.mem_filter.mpr ⟨tbl_3 (List.mem_of_getElem? (i := 192) rfl), rfl⟩
theorem q_3_193 : Cond.code yX7_share prog_1_method_21_code 3 (some .long) ∈ gw := List.mem_filter.mpr ⟨tbl_3 (List.mem_of_getElem? (i := 193) rfl), rfl⟩
theorem q_3_194 : Cond.methodLink RL 99 yX7_likeliest ∈ gw := List.mem_filter.mpr ⟨tbl_3 (List.mem_of_getElem? (i := 194) rfl), rfl⟩
theorem q_3_195 : Cond.instanceMethod yX7_likeliest ∈ gw := List.mem_filter.mpr ⟨tbl_3 (List.mem_of_getElem? (i := 195) rfl), rfl⟩
theorem q_3_196 : Cond.selects RX7 yX7_likeliest yX7_likeliest ∈ gw := List.mem_filter.mpr ⟨tbl_3 (List.mem_of_getElem? (i := 196) rfl), rfl⟩
theorem q_3_197 : Cond.code yX7_likeliest prog_1_method_22_code 1 (some .int) ∈ gw := List.mem_filter.mpr ⟨tbl_3 (List.mem_of_getElem? (i := 197) rfl), rfl⟩
theorem q_3_198 : Cond.methodLink RX7 218 yX6_heaviest ∈ gw := List.mem_filter.mpr ⟨tbl_3 (List.mem_of_getElem? (i := 198) rfl), rfl⟩
theorem q_3_199 : Cond.instanceMethod yX6_heaviest ∈ gw := List.mem_filter.mpr ⟨tbl_3 (List.mem_of_getElem? (i := 199) rfl), rfl⟩
theorem q_3_200 : Cond.selects RX6 yX6_heaviest yX6_heaviest ∈ gw := List.mem_filter.mpr ⟨tbl_3 (List.mem_of_getElem? (i := 200) rfl), rfl⟩
theorem q_3_201 : Cond.code yX6_heaviest prog_8_method_14_code 5 (some .int) ∈ gw := List.mem_filter.mpr ⟨tbl_3 (List.mem_of_getElem? (i := 201) rfl), rfl⟩
theorem q_3_202 : Cond.methodLink RL 103 yX7_ask ∈ gw := List.mem_filter.mpr ⟨tbl_3 (List.mem_of_getElem? (i := 202) rfl), rfl⟩
theorem q_3_203 : Cond.instanceMethod yX7_ask ∈ gw := List.mem_filter.mpr ⟨tbl_3 (List.mem_of_getElem? (i := 203) rfl), rfl⟩
theorem q_3_204 : Cond.selects RX7 yX7_ask yX7_ask ∈ gw := List.mem_filter.mpr ⟨tbl_3 (List.mem_of_getElem? (i := 204) rfl), rfl⟩
theorem q_3_205 : Cond.code yX7_ask prog_1_method_23_code 3 (some .int) ∈ gw := List.mem_filter.mpr ⟨tbl_3 (List.mem_of_getElem? (i := 205) rfl), rfl⟩
theorem q_3_206 : Cond.methodLink RX7 221 yX6_whomToAsk ∈ gw := List.mem_filter.mpr ⟨tbl_3 (List.mem_of_getElem? (i := 206) rfl), rfl⟩
theorem q_3_207 : Cond.instanceMethod yX6_whomToAsk ∈ gw := List.mem_filter.mpr ⟨tbl_3 (List.mem_of_getElem? (i := 207) rfl), rfl⟩
theorem q_3_208 : Cond.selects RX6 yX6_whomToAsk yX6_whomToAsk ∈ gw := List.mem_filter.mpr ⟨tbl_3 (List.mem_of_getElem? (i := 208) rfl), rfl⟩
theorem q_3_209 : Cond.code yX6_whomToAsk prog_8_method_15_code 5 (some .int) ∈ gw := List.mem_filter.mpr ⟨tbl_3 (List.mem_of_getElem? (i := 209) rfl), rfl⟩
theorem q_3_210 : Cond.methodLink RX6 128 yX6_worstCase ∈ gw := List.mem_filter.mpr ⟨tbl_3 (List.mem_of_getElem? (i := 210) rfl), rfl⟩
theorem q_3_211 : Cond.instanceMethod yX6_worstCase ∈ gw := List.mem_filter.mpr ⟨tbl_3 (List.mem_of_getElem? (i := 211) rfl), rfl⟩
theorem q_3_212 : Cond.selects RX6 yX6_worstCase yX6_worstCase ∈ gw := List.mem_filter.mpr ⟨tbl_3 (List.mem_of_getElem? (i := 212) rfl), rfl⟩
theorem q_3_213 : Cond.code yX6_worstCase prog_8_method_17_code 6 (some .int) ∈ gw := List.mem_filter.mpr ⟨tbl_3 (List.mem_of_getElem? (i := 213) rfl), rfl⟩
theorem q_3_214 : Cond.methodLink RX6 135 yJ9_max_7cf53 ∈ gw := List.mem_filter.mpr ⟨tbl_3 (List.mem_of_getElem? (i := 214) rfl), rfl⟩
theorem q_3_215 : Cond.methodLink RX6 131 yX6_wasSeen ∈ gw := List.mem_filter.mpr ⟨tbl_3 (List.mem_of_getElem? (i := 215) rfl), rfl⟩
theorem q_3_217 : Cond.instanceMethod yX6_wasSeen ∈ gw := List.mem_filter.mpr ⟨tbl_3 (List.mem_of_getElem? (i := 217) rfl), rfl⟩
theorem q_3_218 : Cond.code yX6_wasSeen prog_8_method_16_code 3 (some .boolean) ∈ gw := List.mem_filter.mpr ⟨tbl_3 (List.mem_of_getElem? (i := 218) rfl), rfl⟩
theorem q_3_219 : Cond.methodLink RX7 224 yX6_worstCase ∈ gw := List.mem_filter.mpr ⟨tbl_3 (List.mem_of_getElem? (i := 219) rfl), rfl⟩
theorem q_3_220 : Cond.methodLink RL 107 yX7_turned ∈ gw := List.mem_filter.mpr ⟨tbl_3 (List.mem_of_getElem? (i := 220) rfl), rfl⟩
theorem q_3_221 : Cond.instanceMethod yX7_turned ∈ gw := List.mem_filter.mpr ⟨tbl_3 (List.mem_of_getElem? (i := 221) rfl), rfl⟩
theorem q_3_222 : Cond.selects RX7 yX7_turned yX7_turned ∈ gw := List.mem_filter.mpr ⟨tbl_3 (List.mem_of_getElem? (i := 222) rfl), rfl⟩
theorem q_3_223 : Cond.code yX7_turned prog_1_method_24_code 7 (some .long) ∈ gw := List.mem_filter.mpr ⟨tbl_3 (List.mem_of_getElem? (i := 223) rfl), rfl⟩
theorem q_3_224 : Cond.constantLong RX7 227 (2520) ∈ gw := List.mem_filter.mpr ⟨tbl_3 (List.mem_of_getElem? (i := 224) rfl), rfl⟩
theorem q_3_225 : Cond.methodLink RL 111 yX7_evening ∈ gw := List.mem_filter.mpr ⟨tbl_3 (List.mem_of_getElem? (i := 225) rfl), rfl⟩
theorem q_3_226 : Cond.instanceMethod yX7_evening ∈ gw := List.mem_filter.mpr ⟨tbl_3 (List.mem_of_getElem? (i := 226) rfl), rfl⟩
theorem q_3_227 : Cond.selects RX7 yX7_evening yX7_evening ∈ gw := List.mem_filter.mpr ⟨tbl_3 (List.mem_of_getElem? (i := 227) rfl), rfl⟩
theorem q_3_228 : Cond.code yX7_evening prog_1_method_25_code 3 (some .int) ∈ gw := List.mem_filter.mpr ⟨tbl_3 (List.mem_of_getElem? (i := 228) rfl), rfl⟩
theorem q_3_229 : Cond.methodLink RX7 229 yX2_run ∈ gw := List.mem_filter.mpr ⟨tbl_3 (List.mem_of_getElem? (i := 229) rfl), rfl⟩
theorem q_3_230 : Cond.instanceMethod yX2_run ∈ gw := List.mem_filter.mpr ⟨tbl_3 (List.mem_of_getElem? (i := 230) rfl), rfl⟩
theorem q_3_231 : Cond.selects RX2 yX2_run yX2_run ∈ gw := List.mem_filter.mpr ⟨tbl_3 (List.mem_of_getElem? (i := 231) rfl), rfl⟩
theorem q_3_232 : Cond.code yX2_run prog_4_method_2_code 4 none ∈ gw := List.mem_filter.mpr ⟨tbl_3 (List.mem_of_getElem? (i := 232) rfl), rfl⟩
theorem q_3_233 : Cond.methodLink RX2 37 yX2_place ∈ gw := List.mem_filter.mpr ⟨tbl_3 (List.mem_of_getElem? (i := 233) rfl), rfl⟩
theorem q_3_235 : Cond.instanceMethod yX2_place ∈ gw := List.mem_filter.mpr ⟨tbl_3 (List.mem_of_getElem? (i := 235) rfl), rfl⟩
theorem q_3_236 : Cond.code yX2_place prog_4_method_3_code 6 (some .int) ∈ gw := List.mem_filter.mpr ⟨tbl_3 (List.mem_of_getElem? (i := 236) rfl), rfl⟩
theorem q_3_237 : Cond.methodLink RX2 41 yX3_choices ∈ gw := List.mem_filter.mpr ⟨tbl_3 (List.mem_of_getElem? (i := 237) rfl), rfl⟩
theorem q_3_238 : Cond.methodLink RX2 44 yX3_has ∈ gw := List.mem_filter.mpr ⟨tbl_3 (List.mem_of_getElem? (i := 238) rfl), rfl⟩
theorem q_3_239 : Cond.methodLink RX2 48 yJ6_bitCount_0f7a4 ∈ gw := List.mem_filter.mpr ⟨tbl_3 (List.mem_of_getElem? (i := 239) rfl), rfl⟩
theorem q_4_0 : Cond.methodLink RX2 54 yX2_lot ∈ gw := List.mem_filter.mpr ⟨tbl_4 (List.mem_of_getElem? (i := 0) rfl), rfl⟩
theorem q_4_2 : Cond.instanceMethod yX2_lot ∈ gw := List.mem_filter.mpr ⟨tbl_4 (List.mem_of_getElem? (i := 2) rfl), rfl⟩
theorem q_4_3 : Cond.code yX2_lot prog_4_method_4_code 2 (some .int) ∈ gw := List.mem_filter.mpr ⟨tbl_4 (List.mem_of_getElem? (i := 3) rfl), rfl⟩
theorem q_4_4 : Cond.constant RX2 61 (1103515245) ∈ gw := List.mem_filter.mpr ⟨tbl_4 (List.mem_of_getElem? (i := 4) rfl), rfl⟩
theorem q_4_5 : Cond.methodLink RX2 57 yX2_member ∈ gw := List.mem_filter.mpr ⟨tbl_4 (List.mem_of_getElem? (i := 5) rfl), rfl⟩
theorem q_4_7 : Cond.instanceMethod yX2_member ∈ gw := List.mem_filter.mpr ⟨tbl_4 (List.mem_of_getElem? (i := 7) rfl), rfl⟩
theorem q_4_8 : Cond.code yX2_member prog_4_method_5_code 5 (some .int) ∈ gw := List.mem_filter.mpr ⟨tbl_4 (List.mem_of_getElem? (i := 8) rfl), rfl⟩
theorem q_4_9 : Cond.methodLink RL 115 yX7_sheet ∈ gw := List.mem_filter.mpr ⟨tbl_4 (List.mem_of_getElem? (i := 9) rfl), rfl⟩
theorem q_4_10 : Cond.instanceMethod yX7_sheet ∈ gw := List.mem_filter.mpr ⟨tbl_4 (List.mem_of_getElem? (i := 10) rfl), rfl⟩
theorem q_4_11 : Cond.selects RX7 yX7_sheet yX7_sheet ∈ gw := List.mem_filter.mpr ⟨tbl_4 (List.mem_of_getElem? (i := 11) rfl), rfl⟩
theorem q_4_12 : Cond.code yX7_sheet prog_1_method_26_code 4 (some .int) ∈ gw := List.mem_filter.mpr ⟨tbl_4 (List.mem_of_getElem? (i := 12) rfl), rfl⟩
theorem q_4_13 : Cond.methodLink RX7 240 yX7_isNoForm ∈ gw := List.mem_filter.mpr ⟨tbl_4 (List.mem_of_getElem? (i := 13) rfl), rfl⟩
theorem q_4_14 : Cond.static yX7_isNoForm ∈ gw := List.mem_filter.mpr ⟨tbl_4 (List.mem_of_getElem? (i := 14) rfl), rfl⟩
theorem q_4_15 : Cond.code yX7_isNoForm prog_1_method_43_code 1 (some .boolean) ∈ gw := List.mem_filter.mpr ⟨tbl_4 (List.mem_of_getElem? (i := 15) rfl), rfl⟩
theorem q_4_16 : Cond.methodLink RX7 246 yX5_renew ∈ gw := List.mem_filter.mpr ⟨tbl_4 (List.mem_of_getElem? (i := 16) rfl), rfl⟩
theorem q_4_17 : Cond.instanceMethod yX5_renew ∈ gw := List.mem_filter.mpr ⟨tbl_4 (List.mem_of_getElem? (i := 17) rfl), rfl⟩
theorem q_4_18 : Cond.selects RX5 yX5_renew yX5_renew ∈ gw := List.mem_filter.mpr ⟨tbl_4 (List.mem_of_getElem? (i := 18) rfl), rfl⟩
theorem q_4_19 : Cond.code yX5_renew prog_7_method_2_code 3 none ∈ gw := List.mem_filter.mpr ⟨tbl_4 (List.mem_of_getElem? (i := 19) rfl), rfl⟩
theorem q_4_20 : Cond.methodLink RX5 22 yJ7_fill_53178 ∈ gw := List.mem_filter.mpr ⟨tbl_4 (List.mem_of_getElem? (i := 20) rfl), rfl⟩
theorem q_4_21 : Cond.methodLink RL 120 yX7_lose ∈ gw := List.mem_filter.mpr ⟨tbl_4 (List.mem_of_getElem? (i := 21) rfl), rfl⟩
theorem q_4_22 : Cond.instanceMethod yX7_lose ∈ gw := List.mem_filter.mpr ⟨tbl_4 (List.mem_of_getElem? (i := 22) rfl), rfl⟩
theorem q_4_23 : Cond.selects RX7 yX7_lose yX7_lose ∈ gw := List.mem_filter.mpr ⟨tbl_4 (List.mem_of_getElem? (i := 23) rfl), rfl⟩
theorem q_4_24 : Cond.code yX7_lose prog_1_method_27_code 4 (some .int) ∈ gw := List.mem_filter.mpr ⟨tbl_4 (List.mem_of_getElem? (i := 24) rfl), rfl⟩
theorem q_4_25 : Cond.methodLink RL 124 yX7_lay ∈ gw := List.mem_filter.mpr ⟨tbl_4 (List.mem_of_getElem? (i := 25) rfl), rfl⟩
theorem q_4_26 : Cond.instanceMethod yX7_lay ∈ gw := List.mem_filter.mpr ⟨tbl_4 (List.mem_of_getElem? (i := 26) rfl), rfl⟩
theorem q_4_27 : Cond.selects RX7 yX7_lay yX7_lay ∈ gw := List.mem_filter.mpr ⟨tbl_4 (List.mem_of_getElem? (i := 27) rfl), rfl⟩
theorem q_4_28 : Cond.code yX7_lay prog_1_method_28_code 6 (some .int) ∈ gw := List.mem_filter.mpr ⟨tbl_4 (List.mem_of_getElem? (i := 28) rfl), rfl⟩
theorem q_4_29 : Cond.methodLink RX7 249 yX7_refuseItem ∈ gw := List.mem_filter.mpr ⟨tbl_4 (List.mem_of_getElem? (i := 29) rfl), rfl⟩
theorem q_4_31 : Cond.instanceMethod yX7_refuseItem ∈ gw := List.mem_filter.mpr ⟨tbl_4 (List.mem_of_getElem? (i := 31) rfl), rfl⟩
theorem q_4_32 : Cond.code yX7_refuseItem prog_1_method_47_code 5 (some .int) ∈ gw := List.mem_filter.mpr ⟨tbl_4 (List.mem_of_getElem? (i := 32) rfl), rfl⟩
theorem q_4_33 : Cond.methodLink RX7 260 yX5_holds ∈ gw := List.mem_filter.mpr ⟨tbl_4 (List.mem_of_getElem? (i := 33) rfl), rfl⟩
theorem q_4_34 : Cond.instanceMethod yX5_holds ∈ gw := List.mem_filter.mpr ⟨tbl_4 (List.mem_of_getElem? (i := 34) rfl), rfl⟩
theorem q_4_35 : Cond.selects RX5 yX5_holds yX5_holds ∈ gw := List.mem_filter.mpr ⟨tbl_4 (List.mem_of_getElem? (i := 35) rfl), rfl⟩
theorem q_4_36 : Cond.code yX5_holds prog_7_method_3_code 3 (some .boolean) ∈ gw := List.mem_filter.mpr ⟨tbl_4 (List.mem_of_getElem? (i := 36) rfl), rfl⟩
theorem q_4_37 : Cond.methodLink RX7 253 yX5_put ∈ gw := List.mem_filter.mpr ⟨tbl_4 (List.mem_of_getElem? (i := 37) rfl), rfl⟩
theorem q_4_38 : Cond.instanceMethod yX5_put ∈ gw := List.mem_filter.mpr ⟨tbl_4 (List.mem_of_getElem? (i := 38) rfl), rfl⟩
theorem q_4_39 : Cond.selects RX5 yX5_put yX5_put ∈ gw := List.mem_filter.mpr ⟨tbl_4 (List.mem_of_getElem? (i := 39) rfl), rfl⟩
theorem q_4_40 : Cond.code yX5_put prog_7_method_4_code 3 none ∈ gw := List.mem_filter.mpr ⟨tbl_4 (List.mem_of_getElem? (i := 40) rfl), rfl⟩
theorem q_4_41 : Cond.methodLink RL 129 yX7_get ∈ gw := List.mem_filter.mpr ⟨tbl_4 (List.mem_of_getElem? (i := 41) rfl), rfl⟩
theorem q_4_42 : Cond.instanceMethod yX7_get ∈ gw := List.mem_filter.mpr ⟨tbl_4 (List.mem_of_getElem? (i := 42) rfl), rfl⟩
theorem q_4_43 : Cond.selects RX7 yX7_get yX7_get ∈ gw := List.mem_filter.mpr ⟨tbl_4 (List.mem_of_getElem? (i := 43) rfl), rfl⟩
theorem q_4_44 : Cond.code yX7_get prog_1_method_29_code 4 (some .int) ∈ gw := List.mem_filter.mpr ⟨tbl_4 (List.mem_of_getElem? (i := 44) rfl), rfl⟩
theorem q_4_45 : Cond.constant RX7 256 (-2147483648) ∈ gw := List.mem_filter.mpr ⟨tbl_4 (List.mem_of_getElem? (i := 45) rfl), rfl⟩
theorem q_4_46 : Cond.methodLink RL 133 yX7_copy ∈ gw := List.mem_filter.mpr ⟨tbl_4 (List.mem_of_getElem? (i := 46) rfl), rfl⟩
theorem q_4_47 : Cond.instanceMethod yX7_copy ∈ gw := List.mem_filter.mpr ⟨tbl_4 (List.mem_of_getElem? (i := 47) rfl), rfl⟩
theorem q_4_48 : Cond.selects RX7 yX7_copy yX7_copy ∈ gw := List.mem_filter.mpr ⟨tbl_4 (List.mem_of_getElem? (i := 48) rfl), rfl⟩
theorem q_4_49 : Cond.code yX7_copy prog_1_method_30_code 8 (some .int) ∈ gw := List.mem_filter.mpr ⟨tbl_4 (List.mem_of_getElem? (i := 49) rfl), rfl⟩
theorem q_4_50 : Cond.methodLink RX7 263 arraycopyName ∈ gw := List.mem_filter.mpr ⟨tbl_4 (List.mem_of_getElem? (i := 50) rfl), rfl⟩
theorem q_4_51 : Cond.methodLink RL 138 yX7_write ∈ gw := List.mem_filter.mpr ⟨tbl_4 (List.mem_of_getElem? (i := 51) rfl), rfl⟩
theorem q_4_52 : Cond.instanceMethod yX7_write ∈ gw := List.mem_filter.mpr ⟨tbl_4 (List.mem_of_getElem? (i := 52) rfl), rfl⟩
theorem q_4_53 : Cond.selects RX7 yX7_write yX7_write ∈ gw := List.mem_filter.mpr ⟨tbl_4 (List.mem_of_getElem? (i := 53) rfl), rfl⟩
theorem q_4_54 : Cond.code yX7_write prog_1_method_31_code 6 (some .int) ∈ gw := List.mem_filter.mpr ⟨tbl_4 (List.mem_of_getElem? (i := 54) rfl), rfl⟩
theorem q_4_55 : Cond.methodLink RX7 269 yJ9_min_7cf53 ∈ gw := List.mem_filter.mpr ⟨tbl_4 (List.mem_of_getElem? (i := 55) rfl), rfl⟩
theorem q_4_56 : Cond.static yJ9_min_7cf53 ∈ gw := List.mem_filter.mpr ⟨tbl_4 (List.mem_of_getElem? (i := 56) rfl), rfl⟩
theorem q_4_57 : Cond.code yJ9_min_7cf53 prog_12_method_69_code 2 (some .int) ∈ gw := List.mem_filter.mpr ⟨tbl_4 (List.mem_of_getElem? (i := 57) rfl), rfl⟩
theorem q_4_58 : Cond.methodLink RL 142 yX7_count ∈ gw := List.mem_filter.mpr ⟨tbl_4 (List.mem_of_getElem? (i := 58) rfl), rfl⟩
theorem q_4_59 : Cond.instanceMethod yX7_count ∈ gw := List.mem_filter.mpr ⟨tbl_4 (List.mem_of_getElem? (i := 59) rfl), rfl⟩
theorem q_4_60 : Cond.selects RX7 yX7_count yX7_count ∈ gw := List.mem_filter.mpr ⟨tbl_4 (List.mem_of_getElem? (i := 60) rfl), rfl⟩
theorem q_4_61 : Cond.code yX7_count prog_1_method_32_code 2 (some .int) ∈ gw := List.mem_filter.mpr ⟨tbl_4 (List.mem_of_getElem? (i := 61) rfl), rfl⟩
theorem q_4_62 : Cond.methodLink RX7 281 yX3_countLost ∈ gw := List.mem_filter.mpr ⟨tbl_4 (List.mem_of_getElem? (i := 62) rfl), rfl⟩
theorem q_4_63 : Cond.instanceMethod yX3_countLost ∈ gw := List.mem_filter.mpr ⟨tbl_4 (List.mem_of_getElem? (i := 63) rfl), rfl⟩
theorem q_4_64 : Cond.selects RX3 yX3_countLost yX3_countLost ∈ gw := List.mem_filter.mpr ⟨tbl_4 (List.mem_of_getElem? (i := 64) rfl), rfl⟩
theorem q_4_65 : Cond.code yX3_countLost prog_5_method_12_code 3 (some .int) ∈ gw := List.mem_filter.mpr ⟨tbl_4 (List.mem_of_getElem? (i := 65) rfl), rfl⟩
theorem q_4_66 : Cond.methodLink RX7 284 yX3_countUnowned ∈ gw := List.mem_filter.mpr ⟨tbl_4 (List.mem_of_getElem? (i := 66) rfl), rfl⟩
theorem q_4_67 : Cond.instanceMethod yX3_countUnowned ∈ gw := List.mem_filter.mpr ⟨tbl_4 (List.mem_of_getElem? (i := 67) rfl), rfl⟩
theorem q_4_68 : Cond.selects RX3 yX3_countUnowned yX3_countUnowned ∈ gw := List.mem_filter.mpr ⟨tbl_4 (List.mem_of_getElem? (i := 68) rfl), rfl⟩
theorem q_4_69 : Cond.code yX3_countUnowned prog_5_method_13_code 3 (some .int) ∈ gw := List.mem_filter.mpr ⟨tbl_4 (List.mem_of_getElem? (i := 69) rfl), rfl⟩
theorem q_4_70 : Cond.methodLink RX3 74 yX3_ownersOf ∈ gw := List.mem_filter.mpr ⟨tbl_4 (List.mem_of_getElem? (i := 70) rfl), rfl⟩
theorem q_4_71 : Cond.methodLink RL 146 yX7_digest ∈ gw := List.mem_filter.mpr ⟨tbl_4 (List.mem_of_getElem? (i := 71) rfl), rfl⟩
theorem q_4_72 : Cond.instanceMethod yX7_digest ∈ gw := List.mem_filter.mpr ⟨tbl_4 (List.mem_of_getElem? (i := 72) rfl), rfl⟩
theorem q_4_73 : Cond.selects RX7 yX7_digest yX7_digest ∈ gw := List.mem_filter.mpr ⟨tbl_4 (List.mem_of_getElem? (i := 73) rfl), rfl⟩
theorem q_4_74 : Cond.code yX7_digest prog_1_method_33_code 4 (some .long) ∈ gw := List.mem_filter.mpr ⟨tbl_4 (List.mem_of_getElem? (i := 74) rfl), rfl⟩
theorem q_4_75 : Cond.constantLong RX7 287 (17) ∈ gw := List.mem_filter.mpr ⟨tbl_4 (List.mem_of_getElem? (i := 75) rfl), rfl⟩
theorem q_4_76 : Cond.constantLong RX7 289 (31) ∈ gw := List.mem_filter.mpr ⟨tbl_4 (List.mem_of_getElem? (i := 76) rfl), rfl⟩
theorem q_4_77 : Cond.methodLink RX7 291 yX7_count ∈ gw := List.mem_filter.mpr ⟨tbl_4 (List.mem_of_getElem? (i := 77) rfl), rfl⟩
theorem q_4_78 : Cond.methodLink RX7 294 yX7_fault ∈ gw := List.mem_filter.mpr ⟨tbl_4 (List.mem_of_getElem? (i := 78) rfl), rfl⟩
theorem q_4_79 : Cond.methodLink RX7 297 yX7_mixSeats ∈ gw := List.mem_filter.mpr ⟨tbl_4 (List.mem_of_getElem? (i := 79) rfl), rfl⟩
theorem q_4_81 : Cond.instanceMethod yX7_mixSeats ∈ gw := List.mem_filter.mpr ⟨tbl_4 (List.mem_of_getElem? (i := 81) rfl), rfl⟩
theorem q_4_82 : Cond.code yX7_mixSeats prog_1_method_34_code 7 (some .long) ∈ gw := List.mem_filter.mpr ⟨tbl_4 (List.mem_of_getElem? (i := 82) rfl), rfl⟩
theorem q_4_83 : Cond.methodLink RX7 336 yX7_seat ∈ gw := List.mem_filter.mpr ⟨tbl_4 (List.mem_of_getElem? (i := 83) rfl), rfl⟩
theorem q_4_84 : Cond.methodLink RX7 339 yX7_left ∈ gw := List.mem_filter.mpr ⟨tbl_4 (List.mem_of_getElem? (i := 84) rfl), rfl⟩
theorem q_4_85 : Cond.methodLink RX7 308 yX7_mix ∈ gw := List.mem_filter.mpr ⟨tbl_4 (List.mem_of_getElem? (i := 85) rfl), rfl⟩
theorem q_4_86 : Cond.static yX7_mix ∈ gw := List.mem_filter.mpr ⟨tbl_4 (List.mem_of_getElem? (i := 86) rfl), rfl⟩
theorem q_4_87 : Cond.code yX7_mix prog_1_method_36_code 6 (some .long) ∈ gw := List.mem_filter.mpr ⟨tbl_4 (List.mem_of_getElem? (i := 87) rfl), rfl⟩
theorem q_4_88 : Cond.methodLink RX7 301 yX7_mixPeople ∈ gw := List.mem_filter.mpr ⟨tbl_4 (List.mem_of_getElem? (i := 88) rfl), rfl⟩
theorem q_4_90 : Cond.instanceMethod yX7_mixPeople ∈ gw := List.mem_filter.mpr ⟨tbl_4 (List.mem_of_getElem? (i := 90) rfl), rfl⟩
theorem q_4_91 : Cond.code yX7_mixPeople prog_1_method_35_code 7 (some .long) ∈ gw := List.mem_filter.mpr ⟨tbl_4 (List.mem_of_getElem? (i := 91) rfl), rfl⟩
theorem q_4_92 : Cond.methodLink RX7 342 yX7_person ∈ gw := List.mem_filter.mpr ⟨tbl_4 (List.mem_of_getElem? (i := 92) rfl), rfl⟩
theorem q_4_93 : Cond.methodLink RX7 345 yX7_likely ∈ gw := List.mem_filter.mpr ⟨tbl_4 (List.mem_of_getElem? (i := 93) rfl), rfl⟩
theorem q_4_94 : Cond.methodLink RX7 304 yX7_wrong ∈ gw := List.mem_filter.mpr ⟨tbl_4 (List.mem_of_getElem? (i := 94) rfl), rfl⟩
theorem q_4_95 : Cond.methodLink RX7 312 yX7_looks ∈ gw := List.mem_filter.mpr ⟨tbl_4 (List.mem_of_getElem? (i := 95) rfl), rfl⟩
theorem q_4_96 : Cond.methodLink RX7 315 yX7_taken ∈ gw := List.mem_filter.mpr ⟨tbl_4 (List.mem_of_getElem? (i := 96) rfl), rfl⟩
theorem q_4_97 : Cond.methodLink RX7 319 yX7_best ∈ gw := List.mem_filter.mpr ⟨tbl_4 (List.mem_of_getElem? (i := 97) rfl), rfl⟩
theorem q_4_98 : Cond.methodLink RX7 321 yX7_losers ∈ gw := List.mem_filter.mpr ⟨tbl_4 (List.mem_of_getElem? (i := 98) rfl), rfl⟩
theorem q_4_99 : Cond.methodLink RX7 324 yX7_likeliest ∈ gw := List.mem_filter.mpr ⟨tbl_4 (List.mem_of_getElem? (i := 99) rfl), rfl⟩
theorem q_4_100 : Cond.methodLink RX7 327 yX7_ask ∈ gw := List.mem_filter.mpr ⟨tbl_4 (List.mem_of_getElem? (i := 100) rfl), rfl⟩
theorem q_4_101 : Cond.methodLink RX7 330 yX7_evening ∈ gw := List.mem_filter.mpr ⟨tbl_4 (List.mem_of_getElem? (i := 101) rfl), rfl⟩
theorem q_4_102 : Cond.methodLink RX7 333 yX7_turned ∈ gw := List.mem_filter.mpr ⟨tbl_4 (List.mem_of_getElem? (i := 102) rfl), rfl⟩
theorem q_4_103 : Cond.classLink RL 10 "LostTicketModel" ∈ gw := List.mem_filter.mpr ⟨tbl_4 (List.mem_of_getElem? (i := 103) rfl), rfl⟩
theorem q_4_104 : Cond.instantiable RX8 36 ∈ gw := List.mem_filter.mpr ⟨tbl_4 (List.mem_of_getElem? (i := 104) rfl), rfl⟩
theorem q_4_105 : Cond.methodLink RL 12 yX8_init ∈ gw := List.mem_filter.mpr ⟨tbl_4 (List.mem_of_getElem? (i := 105) rfl), rfl⟩
theorem q_4_106 : Cond.instanceMethod yX8_init ∈ gw := List.mem_filter.mpr ⟨tbl_4 (List.mem_of_getElem? (i := 106) rfl), rfl⟩
theorem q_4_107 : Cond.code yX8_init prog_10_method_1_code 2 none ∈ gw := List.mem_filter.mpr ⟨tbl_4 (List.mem_of_getElem? (i := 107) rfl), rfl⟩
theorem q_4_108 : Cond.methodLink RX8 1 objectInit ∈ gw := List.mem_filter.mpr ⟨tbl_4 (List.mem_of_getElem? (i := 108) rfl), rfl⟩
theorem q_4_109 : Cond.fieldLink RX8 7 "LostTicketModel" "forms" "[I" ∈ gw := List.mem_filter.mpr ⟨tbl_4 (List.mem_of_getElem? (i := 109) rfl), rfl⟩
theorem q_4_110 : Cond.fieldLink RX8 13 "LostTicketModel" "sizes" "[I" ∈ gw := List.mem_filter.mpr ⟨tbl_4 (List.mem_of_getElem? (i := 110) rfl), rfl⟩
theorem q_4_111 : Cond.fieldLink RX8 16 "LostTicketModel" "items" "[I" ∈ gw := List.mem_filter.mpr ⟨tbl_4 (List.mem_of_getElem? (i := 111) rfl), rfl⟩
theorem q_4_112 : Cond.fieldLink RX8 19 "LostTicketModel" "moved" "[I" ∈ gw := List.mem_filter.mpr ⟨tbl_4 (List.mem_of_getElem? (i := 112) rfl), rfl⟩
theorem q_4_113 : Cond.fieldLink RX8 84 "LostTicketModel" "latest" "I" ∈ gw := List.mem_filter.mpr ⟨tbl_4 (List.mem_of_getElem? (i := 113) rfl), rfl⟩
theorem q_4_114 : Cond.fieldLink RX8 22 "LostTicketModel" "bytes" "[I" ∈ gw := List.mem_filter.mpr ⟨tbl_4 (List.mem_of_getElem? (i := 114) rfl), rfl⟩
theorem q_4_115 : Cond.fieldLink RX8 25 "LostTicketModel" "typed" "[I" ∈ gw := List.mem_filter.mpr ⟨tbl_4 (List.mem_of_getElem? (i := 115) rfl), rfl⟩
theorem q_4_116 : Cond.fieldLink RX8 113 "LostTicketModel" "at" "I" ∈ gw := List.mem_filter.mpr ⟨tbl_4 (List.mem_of_getElem? (i := 116) rfl), rfl⟩
theorem q_4_117 : Cond.fieldLink RX8 116 "LostTicketModel" "seats" "I" ∈ gw := List.mem_filter.mpr ⟨tbl_4 (List.mem_of_getElem? (i := 117) rfl), rfl⟩
theorem q_4_118 : Cond.fieldLink RX8 119 "LostTicketModel" "rows" "I" ∈ gw := List.mem_filter.mpr ⟨tbl_4 (List.mem_of_getElem? (i := 118) rfl), rfl⟩
theorem q_4_119 : Cond.fieldLink RX8 28 "LostTicketModel" "sorts" "[I" ∈ gw := List.mem_filter.mpr ⟨tbl_4 (List.mem_of_getElem? (i := 119) rfl), rfl⟩
theorem q_4_120 : Cond.fieldLink RX8 31 "LostTicketModel" "rowOf" "[I" ∈ gw := List.mem_filter.mpr ⟨tbl_4 (List.mem_of_getElem? (i := 120) rfl), rfl⟩
theorem q_4_121 : Cond.fieldLink RX8 129 "LostTicketModel" "people" "I" ∈ gw := List.mem_filter.mpr ⟨tbl_4 (List.mem_of_getElem? (i := 121) rfl), rfl⟩
theorem q_4_122 : Cond.fieldLink RX8 34 "LostTicketModel" "own" "[I" ∈ gw := List.mem_filter.mpr ⟨tbl_4 (List.mem_of_getElem? (i := 122) rfl), rfl⟩
theorem q_4_123 : Cond.fieldLink RX8 37 "LostTicketModel" "kinds" "[I" ∈ gw := List.mem_filter.mpr ⟨tbl_4 (List.mem_of_getElem? (i := 123) rfl), rfl⟩
theorem q_4_124 : Cond.fieldLink RX8 40 "LostTicketModel" "ways" "[J" ∈ gw := List.mem_filter.mpr ⟨tbl_4 (List.mem_of_getElem? (i := 124) rfl), rfl⟩
theorem q_4_125 : Cond.fieldLink RX8 44 "LostTicketModel" "next" "[J" ∈ gw := List.mem_filter.mpr ⟨tbl_4 (List.mem_of_getElem? (i := 125) rfl), rfl⟩
theorem q_4_126 : Cond.fieldLink RX8 185 "LostTicketModel" "all" "J" ∈ gw := List.mem_filter.mpr ⟨tbl_4 (List.mem_of_getElem? (i := 126) rfl), rfl⟩
theorem q_4_127 : Cond.fieldLink RX8 47 "LostTicketModel" "loser" "I" ∈ gw := List.mem_filter.mpr ⟨tbl_4 (List.mem_of_getElem? (i := 127) rfl), rfl⟩
theorem q_4_128 : Cond.fieldLink RX8 51 "LostTicketModel" "onlyWho" "I" ∈ gw := List.mem_filter.mpr ⟨tbl_4 (List.mem_of_getElem? (i := 128) rfl), rfl⟩
theorem q_4_129 : Cond.fieldLink RX8 192 "LostTicketModel" "onlyWhere" "I" ∈ gw := List.mem_filter.mpr ⟨tbl_4 (List.mem_of_getElem? (i := 129) rfl), rfl⟩
theorem q_4_130 : Cond.fieldLink RX8 189 "LostTicketModel" "keptFree" "I" ∈ gw := List.mem_filter.mpr ⟨tbl_4 (List.mem_of_getElem? (i := 130) rfl), rfl⟩
theorem q_4_131 : Cond.fieldLink RX8 54 "LostTicketModel" "keptSeat" "[I" ∈ gw := List.mem_filter.mpr ⟨tbl_4 (List.mem_of_getElem? (i := 131) rfl), rfl⟩
theorem q_4_132 : Cond.fieldLink RX8 57 "LostTicketModel" "order" "[I" ∈ gw := List.mem_filter.mpr ⟨tbl_4 (List.mem_of_getElem? (i := 132) rfl), rfl⟩
theorem q_4_133 : Cond.fieldLink RX8 60 "LostTicketModel" "bestOrder" "[I" ∈ gw := List.mem_filter.mpr ⟨tbl_4 (List.mem_of_getElem? (i := 133) rfl), rfl⟩
theorem q_4_134 : Cond.fieldLink RX8 63 "LostTicketModel" "both" "[J" ∈ gw := List.mem_filter.mpr ⟨tbl_4 (List.mem_of_getElem? (i := 134) rfl), rfl⟩
theorem q_4_135 : Cond.fieldLink RX8 66 "LostTicketModel" "bothNext" "[J" ∈ gw := List.mem_filter.mpr ⟨tbl_4 (List.mem_of_getElem? (i := 135) rfl), rfl⟩
theorem q_4_136 : Cond.fieldLink RX8 275 "LostTicketModel" "bestRight" "J" ∈ gw := List.mem_filter.mpr ⟨tbl_4 (List.mem_of_getElem? (i := 136) rfl), rfl⟩
theorem q_4_137 : Cond.fieldLink RX8 287 "LostTicketModel" "rings" "I" ∈ gw := List.mem_filter.mpr ⟨tbl_4 (List.mem_of_getElem? (i := 137) rfl), rfl⟩
theorem q_4_138 : Cond.fieldLink RX8 290 "LostTicketModel" "wrongOnes" "I" ∈ gw := List.mem_filter.mpr ⟨tbl_4 (List.mem_of_getElem? (i := 138) rfl), rfl⟩
theorem q_4_139 : Cond.fieldLink RX8 293 "LostTicketModel" "longer" "Z" ∈ gw := List.mem_filter.mpr ⟨tbl_4 (List.mem_of_getElem? (i := 139) rfl), rfl⟩
theorem q_4_140 : Cond.fieldLink RX8 305 "LostTicketModel" "sights" "I" ∈ gw := List.mem_filter.mpr ⟨tbl_4 (List.mem_of_getElem? (i := 140) rfl), rfl⟩
theorem q_4_141 : Cond.fieldLink RX8 69 "LostTicketModel" "sightWho" "[I" ∈ gw := List.mem_filter.mpr ⟨tbl_4 (List.mem_of_getElem? (i := 141) rfl), rfl⟩
theorem q_4_142 : Cond.fieldLink RX8 72 "LostTicketModel" "sightWhere" "[I" ∈ gw := List.mem_filter.mpr ⟨tbl_4 (List.mem_of_getElem? (i := 142) rfl), rfl⟩
theorem q_4_143 : Cond.fieldLink RX8 341 "LostTicketModel" "seedNow" "I" ∈ gw := List.mem_filter.mpr ⟨tbl_4 (List.mem_of_getElem? (i := 143) rfl), rfl⟩
theorem q_4_144 : Cond.fieldLink RX8 75 "LostTicketModel" "evening" "[I" ∈ gw := List.mem_filter.mpr ⟨tbl_4 (List.mem_of_getElem? (i := 144) rfl), rfl⟩
theorem q_4_218 : Cond.methodLink RL 119 yX8_sheet ∈ gw := List.mem_filter.mpr ⟨tbl_4 (List.mem_of_getElem? (i := 218) rfl), rfl⟩
theorem q_4_219 : Cond.instanceMethod yX8_sheet ∈ gw := List.mem_filter.mpr ⟨tbl_4 (List.mem_of_getElem? (i := 219) rfl), rfl⟩
theorem q_4_220 : Cond.selects RX8 yX8_sheet yX8_sheet ∈ gw := List.mem_filter.mpr ⟨tbl_4 (List.mem_of_getElem? (i := 220) rfl), rfl⟩
theorem q_4_221 : Cond.code yX8_sheet prog_10_method_11_code 5 (some .int) ∈ gw := List.mem_filter.mpr ⟨tbl_4 (List.mem_of_getElem? (i := 221) rfl), rfl⟩
theorem q_4_222 : Cond.methodLink RX8 89 yX8_isSheet ∈ gw := List.mem_filter.mpr ⟨tbl_4 (List.mem_of_getElem? (i := 222) rfl), rfl⟩
theorem q_4_223 : Cond.static yX8_isSheet ∈ gw := List.mem_filter.mpr ⟨tbl_4 (List.mem_of_getElem? (i := 223) rfl), rfl⟩
theorem q_4_224 : Cond.code yX8_isSheet prog_10_method_10_code 1 (some .boolean) ∈ gw := List.mem_filter.mpr ⟨tbl_4 (List.mem_of_getElem? (i := 224) rfl), rfl⟩
theorem q_4_225 : Cond.constantLong RX8 87 (3) ∈ gw := List.mem_filter.mpr ⟨tbl_4 (List.mem_of_getElem? (i := 225) rfl), rfl⟩
theorem q_4_226 : Cond.methodLink RX8 80 yX8_in ∈ gw := List.mem_filter.mpr ⟨tbl_4 (List.mem_of_getElem? (i := 226) rfl), rfl⟩
theorem q_4_227 : Cond.static yX8_in ∈ gw := List.mem_filter.mpr ⟨tbl_4 (List.mem_of_getElem? (i := 227) rfl), rfl⟩
theorem q_4_228 : Cond.code yX8_in prog_10_method_3_code 6 (some .boolean) ∈ gw := List.mem_filter.mpr ⟨tbl_4 (List.mem_of_getElem? (i := 228) rfl), rfl⟩
theorem q_4_229 : Cond.constantLong RX8 93 (2) ∈ gw := List.mem_filter.mpr ⟨tbl_4 (List.mem_of_getElem? (i := 229) rfl), rfl⟩
theorem q_4_230 : Cond.methodLink RX8 95 yX8_met ∈ gw := List.mem_filter.mpr ⟨tbl_4 (List.mem_of_getElem? (i := 230) rfl), rfl⟩
theorem q_4_232 : Cond.instanceMethod yX8_met ∈ gw := List.mem_filter.mpr ⟨tbl_4 (List.mem_of_getElem? (i := 232) rfl), rfl⟩
theorem q_4_233 : Cond.code yX8_met prog_10_method_9_code 2 (some .int) ∈ gw := List.mem_filter.mpr ⟨tbl_4 (List.mem_of_getElem? (i := 233) rfl), rfl⟩
theorem q_4_234 : Cond.methodLink RL 123 yX8_lose ∈ gw := List.mem_filter.mpr ⟨tbl_4 (List.mem_of_getElem? (i := 234) rfl), rfl⟩
theorem q_4_235 : Cond.instanceMethod yX8_lose ∈ gw := List.mem_filter.mpr ⟨tbl_4 (List.mem_of_getElem? (i := 235) rfl), rfl⟩
theorem q_4_236 : Cond.selects RX8 yX8_lose yX8_lose ∈ gw := List.mem_filter.mpr ⟨tbl_4 (List.mem_of_getElem? (i := 236) rfl), rfl⟩
theorem q_4_237 : Cond.code yX8_lose prog_10_method_12_code 2 (some .int) ∈ gw := List.mem_filter.mpr ⟨tbl_4 (List.mem_of_getElem? (i := 237) rfl), rfl⟩
theorem q_4_238 : Cond.methodLink RL 128 yX8_lay ∈ gw := List.mem_filter.mpr ⟨tbl_4 (List.mem_of_getElem? (i := 238) rfl), rfl⟩
theorem q_4_239 : Cond.instanceMethod yX8_lay ∈ gw := List.mem_filter.mpr ⟨tbl_4 (List.mem_of_getElem? (i := 239) rfl), rfl⟩
theorem q_5_0 : Cond.selects RX8 yX8_lay yX8_lay ∈ gw := List.mem_filter.mpr ⟨tbl_5 (List.mem_of_getElem? (i := 0) rfl), rfl⟩
theorem q_5_1 : Cond.code yX8_lay prog_10_method_15_code 6 (some .int) ∈ gw := List.mem_filter.mpr ⟨tbl_5 (List.mem_of_getElem? (i := 1) rfl), rfl⟩
theorem q_5_2 : Cond.methodLink RX8 99 yX8_lacks ∈ gw := List.mem_filter.mpr ⟨tbl_5 (List.mem_of_getElem? (i := 2) rfl), rfl⟩
theorem q_5_4 : Cond.instanceMethod yX8_lacks ∈ gw := List.mem_filter.mpr ⟨tbl_5 (List.mem_of_getElem? (i := 4) rfl), rfl⟩
theorem q_5_5 : Cond.code yX8_lacks prog_10_method_13_code 4 (some .int) ∈ gw := List.mem_filter.mpr ⟨tbl_5 (List.mem_of_getElem? (i := 5) rfl), rfl⟩
theorem q_5_6 : Cond.methodLink RX8 103 yX8_cut ∈ gw := List.mem_filter.mpr ⟨tbl_5 (List.mem_of_getElem? (i := 6) rfl), rfl⟩
theorem q_5_7 : Cond.static yX8_cut ∈ gw := List.mem_filter.mpr ⟨tbl_5 (List.mem_of_getElem? (i := 7) rfl), rfl⟩
theorem q_5_8 : Cond.code yX8_cut prog_10_method_14_code 2 (some .int) ∈ gw := List.mem_filter.mpr ⟨tbl_5 (List.mem_of_getElem? (i := 8) rfl), rfl⟩
theorem q_5_9 : Cond.methodLink RL 132 yX8_get ∈ gw := List.mem_filter.mpr ⟨tbl_5 (List.mem_of_getElem? (i := 9) rfl), rfl⟩
theorem q_5_10 : Cond.instanceMethod yX8_get ∈ gw := List.mem_filter.mpr ⟨tbl_5 (List.mem_of_getElem? (i := 10) rfl), rfl⟩
theorem q_5_11 : Cond.selects RX8 yX8_get yX8_get ∈ gw := List.mem_filter.mpr ⟨tbl_5 (List.mem_of_getElem? (i := 11) rfl), rfl⟩
theorem q_5_12 : Cond.code yX8_get prog_10_method_16_code 4 (some .int) ∈ gw := List.mem_filter.mpr ⟨tbl_5 (List.mem_of_getElem? (i := 12) rfl), rfl⟩
theorem q_5_13 : Cond.constant RX8 107 (-2147483648) ∈ gw := List.mem_filter.mpr ⟨tbl_5 (List.mem_of_getElem? (i := 13) rfl), rfl⟩
theorem q_5_14 : Cond.methodLink RL 137 yX8_copy ∈ gw := List.mem_filter.mpr ⟨tbl_5 (List.mem_of_getElem? (i := 14) rfl), rfl⟩
theorem q_5_15 : Cond.instanceMethod yX8_copy ∈ gw := List.mem_filter.mpr ⟨tbl_5 (List.mem_of_getElem? (i := 15) rfl), rfl⟩
theorem q_5_16 : Cond.selects RX8 yX8_copy yX8_copy ∈ gw := List.mem_filter.mpr ⟨tbl_5 (List.mem_of_getElem? (i := 16) rfl), rfl⟩
theorem q_5_17 : Cond.code yX8_copy prog_10_method_17_code 7 (some .int) ∈ gw := List.mem_filter.mpr ⟨tbl_5 (List.mem_of_getElem? (i := 17) rfl), rfl⟩
theorem q_5_18 : Cond.methodLink RL 17 yX8_type ∈ gw := List.mem_filter.mpr ⟨tbl_5 (List.mem_of_getElem? (i := 18) rfl), rfl⟩
theorem q_5_19 : Cond.instanceMethod yX8_type ∈ gw := List.mem_filter.mpr ⟨tbl_5 (List.mem_of_getElem? (i := 19) rfl), rfl⟩
theorem q_5_20 : Cond.selects RX8 yX8_type yX8_type ∈ gw := List.mem_filter.mpr ⟨tbl_5 (List.mem_of_getElem? (i := 20) rfl), rfl⟩
theorem q_5_21 : Cond.code yX8_type prog_10_method_18_code 3 (some .int) ∈ gw := List.mem_filter.mpr ⟨tbl_5 (List.mem_of_getElem? (i := 21) rfl), rfl⟩
theorem q_5_22 : Cond.methodLink RX8 108 yX8_isTwo ∈ gw := List.mem_filter.mpr ⟨tbl_5 (List.mem_of_getElem? (i := 22) rfl), rfl⟩
theorem q_5_23 : Cond.static yX8_isTwo ∈ gw := List.mem_filter.mpr ⟨tbl_5 (List.mem_of_getElem? (i := 23) rfl), rfl⟩
theorem q_5_24 : Cond.code yX8_isTwo prog_10_method_5_code 1 (some .boolean) ∈ gw := List.mem_filter.mpr ⟨tbl_5 (List.mem_of_getElem? (i := 24) rfl), rfl⟩
theorem q_5_25 : Cond.constantLong RX8 111 (255) ∈ gw := List.mem_filter.mpr ⟨tbl_5 (List.mem_of_getElem? (i := 25) rfl), rfl⟩
theorem q_5_26 : Cond.methodLink RL 22 yX8_wipe ∈ gw := List.mem_filter.mpr ⟨tbl_5 (List.mem_of_getElem? (i := 26) rfl), rfl⟩
theorem q_5_27 : Cond.instanceMethod yX8_wipe ∈ gw := List.mem_filter.mpr ⟨tbl_5 (List.mem_of_getElem? (i := 27) rfl), rfl⟩
theorem q_5_28 : Cond.selects RX8 yX8_wipe yX8_wipe ∈ gw := List.mem_filter.mpr ⟨tbl_5 (List.mem_of_getElem? (i := 28) rfl), rfl⟩
theorem q_5_29 : Cond.code yX8_wipe prog_10_method_19_code 3 (some .int) ∈ gw := List.mem_filter.mpr ⟨tbl_5 (List.mem_of_getElem? (i := 29) rfl), rfl⟩
theorem q_5_30 : Cond.methodLink RL 26 yX8_fault ∈ gw := List.mem_filter.mpr ⟨tbl_5 (List.mem_of_getElem? (i := 30) rfl), rfl⟩
theorem q_5_31 : Cond.instanceMethod yX8_fault ∈ gw := List.mem_filter.mpr ⟨tbl_5 (List.mem_of_getElem? (i := 31) rfl), rfl⟩
theorem q_5_32 : Cond.selects RX8 yX8_fault yX8_fault ∈ gw := List.mem_filter.mpr ⟨tbl_5 (List.mem_of_getElem? (i := 32) rfl), rfl⟩
theorem q_5_33 : Cond.code yX8_fault prog_10_method_28_code 2 (some .int) ∈ gw := List.mem_filter.mpr ⟨tbl_5 (List.mem_of_getElem? (i := 33) rfl), rfl⟩
theorem q_5_34 : Cond.methodLink RX8 144 yX8_faultOf ∈ gw := List.mem_filter.mpr ⟨tbl_5 (List.mem_of_getElem? (i := 34) rfl), rfl⟩
theorem q_5_36 : Cond.instanceMethod yX8_faultOf ∈ gw := List.mem_filter.mpr ⟨tbl_5 (List.mem_of_getElem? (i := 36) rfl), rfl⟩
theorem q_5_37 : Cond.code yX8_faultOf prog_10_method_27_code 4 (some .int) ∈ gw := List.mem_filter.mpr ⟨tbl_5 (List.mem_of_getElem? (i := 37) rfl), rfl⟩
theorem q_5_38 : Cond.methodLink RX8 138 yX8_readsSeats ∈ gw := List.mem_filter.mpr ⟨tbl_5 (List.mem_of_getElem? (i := 38) rfl), rfl⟩
theorem q_5_40 : Cond.instanceMethod yX8_readsSeats ∈ gw := List.mem_filter.mpr ⟨tbl_5 (List.mem_of_getElem? (i := 40) rfl), rfl⟩
theorem q_5_41 : Cond.code yX8_readsSeats prog_10_method_22_code 5 (some .int) ∈ gw := List.mem_filter.mpr ⟨tbl_5 (List.mem_of_getElem? (i := 41) rfl), rfl⟩
theorem q_5_42 : Cond.methodLink RX8 122 yX8_here ∈ gw := List.mem_filter.mpr ⟨tbl_5 (List.mem_of_getElem? (i := 42) rfl), rfl⟩
theorem q_5_44 : Cond.instanceMethod yX8_here ∈ gw := List.mem_filter.mpr ⟨tbl_5 (List.mem_of_getElem? (i := 44) rfl), rfl⟩
theorem q_5_45 : Cond.code yX8_here prog_10_method_20_code 2 (some .int) ∈ gw := List.mem_filter.mpr ⟨tbl_5 (List.mem_of_getElem? (i := 45) rfl), rfl⟩
theorem q_5_46 : Cond.methodLink RX8 125 yX8_noSeats ∈ gw := List.mem_filter.mpr ⟨tbl_5 (List.mem_of_getElem? (i := 46) rfl), rfl⟩
theorem q_5_48 : Cond.instanceMethod yX8_noSeats ∈ gw := List.mem_filter.mpr ⟨tbl_5 (List.mem_of_getElem? (i := 48) rfl), rfl⟩
theorem q_5_49 : Cond.code yX8_noSeats prog_10_method_21_code 1 (some .int) ∈ gw := List.mem_filter.mpr ⟨tbl_5 (List.mem_of_getElem? (i := 49) rfl), rfl⟩
theorem q_5_50 : Cond.methodLink RX8 141 yX8_readsPeople ∈ gw := List.mem_filter.mpr ⟨tbl_5 (List.mem_of_getElem? (i := 50) rfl), rfl⟩
theorem q_5_52 : Cond.instanceMethod yX8_readsPeople ∈ gw := List.mem_filter.mpr ⟨tbl_5 (List.mem_of_getElem? (i := 52) rfl), rfl⟩
theorem q_5_53 : Cond.code yX8_readsPeople prog_10_method_25_code 3 (some .int) ∈ gw := List.mem_filter.mpr ⟨tbl_5 (List.mem_of_getElem? (i := 53) rfl), rfl⟩
theorem q_5_54 : Cond.methodLink RX8 132 yX8_nobody ∈ gw := List.mem_filter.mpr ⟨tbl_5 (List.mem_of_getElem? (i := 54) rfl), rfl⟩
theorem q_5_56 : Cond.instanceMethod yX8_nobody ∈ gw := List.mem_filter.mpr ⟨tbl_5 (List.mem_of_getElem? (i := 56) rfl), rfl⟩
theorem q_5_57 : Cond.code yX8_nobody prog_10_method_24_code 1 (some .int) ∈ gw := List.mem_filter.mpr ⟨tbl_5 (List.mem_of_getElem? (i := 57) rfl), rfl⟩
theorem q_5_58 : Cond.methodLink RX8 135 yX8_kindOf ∈ gw := List.mem_filter.mpr ⟨tbl_5 (List.mem_of_getElem? (i := 58) rfl), rfl⟩
theorem q_5_59 : Cond.static yX8_kindOf ∈ gw := List.mem_filter.mpr ⟨tbl_5 (List.mem_of_getElem? (i := 59) rfl), rfl⟩
theorem q_5_60 : Cond.code yX8_kindOf prog_10_method_23_code 1 (some .int) ∈ gw := List.mem_filter.mpr ⟨tbl_5 (List.mem_of_getElem? (i := 60) rfl), rfl⟩
theorem q_5_61 : Cond.methodLink RL 30 yX8_seat ∈ gw := List.mem_filter.mpr ⟨tbl_5 (List.mem_of_getElem? (i := 61) rfl), rfl⟩
theorem q_5_62 : Cond.instanceMethod yX8_seat ∈ gw := List.mem_filter.mpr ⟨tbl_5 (List.mem_of_getElem? (i := 62) rfl), rfl⟩
theorem q_5_63 : Cond.selects RX8 yX8_seat yX8_seat ∈ gw := List.mem_filter.mpr ⟨tbl_5 (List.mem_of_getElem? (i := 63) rfl), rfl⟩
theorem q_5_64 : Cond.code yX8_seat prog_10_method_33_code 3 (some .int) ∈ gw := List.mem_filter.mpr ⟨tbl_5 (List.mem_of_getElem? (i := 64) rfl), rfl⟩
theorem q_5_65 : Cond.methodLink RX8 153 yX8_isSeat ∈ gw := List.mem_filter.mpr ⟨tbl_5 (List.mem_of_getElem? (i := 65) rfl), rfl⟩
theorem q_5_67 : Cond.instanceMethod yX8_isSeat ∈ gw := List.mem_filter.mpr ⟨tbl_5 (List.mem_of_getElem? (i := 67) rfl), rfl⟩
theorem q_5_68 : Cond.code yX8_isSeat prog_10_method_29_code 2 (some .boolean) ∈ gw := List.mem_filter.mpr ⟨tbl_5 (List.mem_of_getElem? (i := 68) rfl), rfl⟩
theorem q_5_69 : Cond.methodLink RX8 147 yX8_find ∈ gw := List.mem_filter.mpr ⟨tbl_5 (List.mem_of_getElem? (i := 69) rfl), rfl⟩
theorem q_5_71 : Cond.instanceMethod yX8_find ∈ gw := List.mem_filter.mpr ⟨tbl_5 (List.mem_of_getElem? (i := 71) rfl), rfl⟩
theorem q_5_72 : Cond.code yX8_find prog_10_method_26_code 1 none ∈ gw := List.mem_filter.mpr ⟨tbl_5 (List.mem_of_getElem? (i := 72) rfl), rfl⟩
theorem q_5_73 : Cond.methodLink RX8 156 yX8_seatOf ∈ gw := List.mem_filter.mpr ⟨tbl_5 (List.mem_of_getElem? (i := 73) rfl), rfl⟩
theorem q_5_75 : Cond.instanceMethod yX8_seatOf ∈ gw := List.mem_filter.mpr ⟨tbl_5 (List.mem_of_getElem? (i := 75) rfl), rfl⟩
theorem q_5_76 : Cond.code yX8_seatOf prog_10_method_32_code 3 (some .int) ∈ gw := List.mem_filter.mpr ⟨tbl_5 (List.mem_of_getElem? (i := 76) rfl), rfl⟩
theorem q_5_77 : Cond.methodLink RX8 150 yX8_ownersOf ∈ gw := List.mem_filter.mpr ⟨tbl_5 (List.mem_of_getElem? (i := 77) rfl), rfl⟩
theorem q_5_79 : Cond.instanceMethod yX8_ownersOf ∈ gw := List.mem_filter.mpr ⟨tbl_5 (List.mem_of_getElem? (i := 79) rfl), rfl⟩
theorem q_5_80 : Cond.code yX8_ownersOf prog_10_method_31_code 4 (some .int) ∈ gw := List.mem_filter.mpr ⟨tbl_5 (List.mem_of_getElem? (i := 80) rfl), rfl⟩
theorem q_5_81 : Cond.methodLink RL 34 yX8_person ∈ gw := List.mem_filter.mpr ⟨tbl_5 (List.mem_of_getElem? (i := 81) rfl), rfl⟩
theorem q_5_82 : Cond.instanceMethod yX8_person ∈ gw := List.mem_filter.mpr ⟨tbl_5 (List.mem_of_getElem? (i := 82) rfl), rfl⟩
theorem q_5_83 : Cond.selects RX8 yX8_person yX8_person ∈ gw := List.mem_filter.mpr ⟨tbl_5 (List.mem_of_getElem? (i := 83) rfl), rfl⟩
theorem q_5_84 : Cond.code yX8_person prog_10_method_34_code 3 (some .int) ∈ gw := List.mem_filter.mpr ⟨tbl_5 (List.mem_of_getElem? (i := 84) rfl), rfl⟩
theorem q_5_85 : Cond.methodLink RX8 159 yX8_isPerson ∈ gw := List.mem_filter.mpr ⟨tbl_5 (List.mem_of_getElem? (i := 85) rfl), rfl⟩
theorem q_5_87 : Cond.instanceMethod yX8_isPerson ∈ gw := List.mem_filter.mpr ⟨tbl_5 (List.mem_of_getElem? (i := 87) rfl), rfl⟩
theorem q_5_88 : Cond.code yX8_isPerson prog_10_method_30_code 2 (some .boolean) ∈ gw := List.mem_filter.mpr ⟨tbl_5 (List.mem_of_getElem? (i := 88) rfl), rfl⟩
theorem q_5_89 : Cond.methodLink RL 39 yX8_likely ∈ gw := List.mem_filter.mpr ⟨tbl_5 (List.mem_of_getElem? (i := 89) rfl), rfl⟩
theorem q_5_90 : Cond.instanceMethod yX8_likely ∈ gw := List.mem_filter.mpr ⟨tbl_5 (List.mem_of_getElem? (i := 90) rfl), rfl⟩
theorem q_5_91 : Cond.selects RX8 yX8_likely yX8_likely ∈ gw := List.mem_filter.mpr ⟨tbl_5 (List.mem_of_getElem? (i := 91) rfl), rfl⟩
theorem q_5_92 : Cond.code yX8_likely prog_10_method_48_code 4 (some .long) ∈ gw := List.mem_filter.mpr ⟨tbl_5 (List.mem_of_getElem? (i := 92) rfl), rfl⟩
theorem q_5_93 : Cond.methodLink RX8 233 yX8_likelyOf ∈ gw := List.mem_filter.mpr ⟨tbl_5 (List.mem_of_getElem? (i := 93) rfl), rfl⟩
theorem q_5_95 : Cond.instanceMethod yX8_likelyOf ∈ gw := List.mem_filter.mpr ⟨tbl_5 (List.mem_of_getElem? (i := 95) rfl), rfl⟩
theorem q_5_96 : Cond.code yX8_likelyOf prog_10_method_47_code 4 (some .long) ∈ gw := List.mem_filter.mpr ⟨tbl_5 (List.mem_of_getElem? (i := 96) rfl), rfl⟩
theorem q_5_97 : Cond.methodLink RX8 221 yX8_firstSit ∈ gw := List.mem_filter.mpr ⟨tbl_5 (List.mem_of_getElem? (i := 97) rfl), rfl⟩
theorem q_5_99 : Cond.instanceMethod yX8_firstSit ∈ gw := List.mem_filter.mpr ⟨tbl_5 (List.mem_of_getElem? (i := 99) rfl), rfl⟩
theorem q_5_100 : Cond.code yX8_firstSit prog_10_method_45_code 3 none ∈ gw := List.mem_filter.mpr ⟨tbl_5 (List.mem_of_getElem? (i := 100) rfl), rfl⟩
theorem q_5_101 : Cond.methodLink RX8 211 yX8_noBounds ∈ gw := List.mem_filter.mpr ⟨tbl_5 (List.mem_of_getElem? (i := 101) rfl), rfl⟩
theorem q_5_103 : Cond.instanceMethod yX8_noBounds ∈ gw := List.mem_filter.mpr ⟨tbl_5 (List.mem_of_getElem? (i := 103) rfl), rfl⟩
theorem q_5_104 : Cond.code yX8_noBounds prog_10_method_42_code 2 none ∈ gw := List.mem_filter.mpr ⟨tbl_5 (List.mem_of_getElem? (i := 104) rfl), rfl⟩
theorem q_5_105 : Cond.methodLink RX8 214 yX8_begins ∈ gw := List.mem_filter.mpr ⟨tbl_5 (List.mem_of_getElem? (i := 105) rfl), rfl⟩
theorem q_5_107 : Cond.instanceMethod yX8_begins ∈ gw := List.mem_filter.mpr ⟨tbl_5 (List.mem_of_getElem? (i := 107) rfl), rfl⟩
theorem q_5_108 : Cond.code yX8_begins prog_10_method_40_code 2 none ∈ gw := List.mem_filter.mpr ⟨tbl_5 (List.mem_of_getElem? (i := 108) rfl), rfl⟩
theorem q_5_109 : Cond.methodLink RX8 217 yX8_sits ∈ gw := List.mem_filter.mpr ⟨tbl_5 (List.mem_of_getElem? (i := 109) rfl), rfl⟩
theorem q_5_111 : Cond.instanceMethod yX8_sits ∈ gw := List.mem_filter.mpr ⟨tbl_5 (List.mem_of_getElem? (i := 111) rfl), rfl⟩
theorem q_5_112 : Cond.code yX8_sits prog_10_method_44_code 10 none ∈ gw := List.mem_filter.mpr ⟨tbl_5 (List.mem_of_getElem? (i := 112) rfl), rfl⟩
theorem q_5_113 : Cond.methodLink RX8 195 yX8_partsOf ∈ gw := List.mem_filter.mpr ⟨tbl_5 (List.mem_of_getElem? (i := 113) rfl), rfl⟩
theorem q_5_114 : Cond.static yX8_partsOf ∈ gw := List.mem_filter.mpr ⟨tbl_5 (List.mem_of_getElem? (i := 114) rfl), rfl⟩
theorem q_5_115 : Cond.code yX8_partsOf prog_10_method_39_code 1 (some .long) ∈ gw := List.mem_filter.mpr ⟨tbl_5 (List.mem_of_getElem? (i := 115) rfl), rfl⟩
theorem q_5_116 : Cond.constantLong RX8 175 (840) ∈ gw := List.mem_filter.mpr ⟨tbl_5 (List.mem_of_getElem? (i := 116) rfl), rfl⟩
theorem q_5_117 : Cond.constantLong RX8 177 (420) ∈ gw := List.mem_filter.mpr ⟨tbl_5 (List.mem_of_getElem? (i := 117) rfl), rfl⟩
theorem q_5_118 : Cond.constantLong RX8 179 (60) ∈ gw := List.mem_filter.mpr ⟨tbl_5 (List.mem_of_getElem? (i := 118) rfl), rfl⟩
theorem q_5_119 : Cond.constantLong RX8 181 (12) ∈ gw := List.mem_filter.mpr ⟨tbl_5 (List.mem_of_getElem? (i := 119) rfl), rfl⟩
theorem q_5_120 : Cond.constantLong RX8 183 (6) ∈ gw := List.mem_filter.mpr ⟨tbl_5 (List.mem_of_getElem? (i := 120) rfl), rfl⟩
theorem q_5_121 : Cond.methodLink RX8 166 yX8_whole ∈ gw := List.mem_filter.mpr ⟨tbl_5 (List.mem_of_getElem? (i := 121) rfl), rfl⟩
theorem q_5_123 : Cond.instanceMethod yX8_whole ∈ gw := List.mem_filter.mpr ⟨tbl_5 (List.mem_of_getElem? (i := 123) rfl), rfl⟩
theorem q_5_124 : Cond.code yX8_whole prog_10_method_35_code 1 (some .int) ∈ gw := List.mem_filter.mpr ⟨tbl_5 (List.mem_of_getElem? (i := 124) rfl), rfl⟩
theorem q_5_125 : Cond.methodLink RX8 199 yX8_kindNow ∈ gw := List.mem_filter.mpr ⟨tbl_5 (List.mem_of_getElem? (i := 125) rfl), rfl⟩
theorem q_5_127 : Cond.instanceMethod yX8_kindNow ∈ gw := List.mem_filter.mpr ⟨tbl_5 (List.mem_of_getElem? (i := 127) rfl), rfl⟩
theorem q_5_128 : Cond.code yX8_kindNow prog_10_method_41_code 2 (some .int) ∈ gw := List.mem_filter.mpr ⟨tbl_5 (List.mem_of_getElem? (i := 128) rfl), rfl⟩
theorem q_5_129 : Cond.methodLink RX8 202 yX8_choices ∈ gw := List.mem_filter.mpr ⟨tbl_5 (List.mem_of_getElem? (i := 129) rfl), rfl⟩
theorem q_5_131 : Cond.instanceMethod yX8_choices ∈ gw := List.mem_filter.mpr ⟨tbl_5 (List.mem_of_getElem? (i := 131) rfl), rfl⟩
theorem q_5_132 : Cond.code yX8_choices prog_10_method_38_code 6 (some .int) ∈ gw := List.mem_filter.mpr ⟨tbl_5 (List.mem_of_getElem? (i := 132) rfl), rfl⟩
theorem q_5_133 : Cond.methodLink RX8 162 yX8_isIn ∈ gw := List.mem_filter.mpr ⟨tbl_5 (List.mem_of_getElem? (i := 133) rfl), rfl⟩
theorem q_5_134 : Cond.static yX8_isIn ∈ gw := List.mem_filter.mpr ⟨tbl_5 (List.mem_of_getElem? (i := 134) rfl), rfl⟩
theorem q_5_135 : Cond.code yX8_isIn prog_10_method_6_code 2 (some .boolean) ∈ gw := List.mem_filter.mpr ⟨tbl_5 (List.mem_of_getElem? (i := 135) rfl), rfl⟩
theorem q_5_136 : Cond.methodLink RX8 169 yX8_nextFree ∈ gw := List.mem_filter.mpr ⟨tbl_5 (List.mem_of_getElem? (i := 136) rfl), rfl⟩
theorem q_5_138 : Cond.instanceMethod yX8_nextFree ∈ gw := List.mem_filter.mpr ⟨tbl_5 (List.mem_of_getElem? (i := 138) rfl), rfl⟩
theorem q_5_139 : Cond.code yX8_nextFree prog_10_method_37_code 4 (some .int) ∈ gw := List.mem_filter.mpr ⟨tbl_5 (List.mem_of_getElem? (i := 139) rfl), rfl⟩
theorem q_5_140 : Cond.methodLink RX8 172 yX8_ofSort ∈ gw := List.mem_filter.mpr ⟨tbl_5 (List.mem_of_getElem? (i := 140) rfl), rfl⟩
theorem q_5_142 : Cond.instanceMethod yX8_ofSort ∈ gw := List.mem_filter.mpr ⟨tbl_5 (List.mem_of_getElem? (i := 142) rfl), rfl⟩
theorem q_5_143 : Cond.code yX8_ofSort prog_10_method_36_code 4 (some .int) ∈ gw := List.mem_filter.mpr ⟨tbl_5 (List.mem_of_getElem? (i := 143) rfl), rfl⟩
theorem q_5_144 : Cond.methodLink RX8 205 yX8_ones ∈ gw := List.mem_filter.mpr ⟨tbl_5 (List.mem_of_getElem? (i := 144) rfl), rfl⟩
theorem q_5_145 : Cond.static yX8_ones ∈ gw := List.mem_filter.mpr ⟨tbl_5 (List.mem_of_getElem? (i := 145) rfl), rfl⟩
theorem q_5_146 : Cond.code yX8_ones prog_10_method_7_code 3 (some .int) ∈ gw := List.mem_filter.mpr ⟨tbl_5 (List.mem_of_getElem? (i := 146) rfl), rfl⟩
theorem q_5_147 : Cond.methodLink RX8 208 yX8_mayBe ∈ gw := List.mem_filter.mpr ⟨tbl_5 (List.mem_of_getElem? (i := 147) rfl), rfl⟩
theorem q_5_149 : Cond.instanceMethod yX8_mayBe ∈ gw := List.mem_filter.mpr ⟨tbl_5 (List.mem_of_getElem? (i := 149) rfl), rfl⟩
theorem q_5_150 : Cond.code yX8_mayBe prog_10_method_43_code 3 (some .boolean) ∈ gw := List.mem_filter.mpr ⟨tbl_5 (List.mem_of_getElem? (i := 150) rfl), rfl⟩
theorem q_5_151 : Cond.methodLink RX8 225 yX8_nextOn ∈ gw := List.mem_filter.mpr ⟨tbl_5 (List.mem_of_getElem? (i := 151) rfl), rfl⟩
theorem q_5_153 : Cond.instanceMethod yX8_nextOn ∈ gw := List.mem_filter.mpr ⟨tbl_5 (List.mem_of_getElem? (i := 153) rfl), rfl⟩
theorem q_5_154 : Cond.code yX8_nextOn prog_10_method_46_code 10 (some .long) ∈ gw := List.mem_filter.mpr ⟨tbl_5 (List.mem_of_getElem? (i := 154) rfl), rfl⟩
theorem q_5_155 : Cond.methodLink RX8 229 yX8_part ∈ gw := List.mem_filter.mpr ⟨tbl_5 (List.mem_of_getElem? (i := 155) rfl), rfl⟩
theorem q_5_156 : Cond.static yX8_part ∈ gw := List.mem_filter.mpr ⟨tbl_5 (List.mem_of_getElem? (i := 156) rfl), rfl⟩
theorem q_5_157 : Cond.code yX8_part prog_10_method_8_code 11 (some .long) ∈ gw := List.mem_filter.mpr ⟨tbl_5 (List.mem_of_getElem? (i := 157) rfl), rfl⟩
theorem q_5_158 : Cond.methodLink RX8 236 yX8_no ∈ gw := List.mem_filter.mpr ⟨tbl_5 (List.mem_of_getElem? (i := 158) rfl), rfl⟩
theorem q_5_159 : Cond.static yX8_no ∈ gw := List.mem_filter.mpr ⟨tbl_5 (List.mem_of_getElem? (i := 159) rfl), rfl⟩
theorem q_5_160 : Cond.code yX8_no prog_10_method_4_code 1 (some .long) ∈ gw := List.mem_filter.mpr ⟨tbl_5 (List.mem_of_getElem? (i := 160) rfl), rfl⟩
theorem q_5_161 : Cond.constantLong RX8 78 (-9223372036854775808) ∈ gw := List.mem_filter.mpr ⟨tbl_5 (List.mem_of_getElem? (i := 161) rfl), rfl⟩
theorem q_5_162 : Cond.methodLink RL 43 yX8_taken ∈ gw := List.mem_filter.mpr ⟨tbl_5 (List.mem_of_getElem? (i := 162) rfl), rfl⟩
theorem q_5_163 : Cond.instanceMethod yX8_taken ∈ gw := List.mem_filter.mpr ⟨tbl_5 (List.mem_of_getElem? (i := 163) rfl), rfl⟩
theorem q_5_164 : Cond.selects RX8 yX8_taken yX8_taken ∈ gw := List.mem_filter.mpr ⟨tbl_5 (List.mem_of_getElem? (i := 164) rfl), rfl⟩
theorem q_5_165 : Cond.code yX8_taken prog_10_method_50_code 4 (some .long) ∈ gw := List.mem_filter.mpr ⟨tbl_5 (List.mem_of_getElem? (i := 165) rfl), rfl⟩
theorem q_5_166 : Cond.methodLink RX8 239 yX8_takenOf ∈ gw := List.mem_filter.mpr ⟨tbl_5 (List.mem_of_getElem? (i := 166) rfl), rfl⟩
theorem q_5_168 : Cond.instanceMethod yX8_takenOf ∈ gw := List.mem_filter.mpr ⟨tbl_5 (List.mem_of_getElem? (i := 168) rfl), rfl⟩
theorem q_5_169 : Cond.code yX8_takenOf prog_10_method_49_code 4 (some .long) ∈ gw := List.mem_filter.mpr ⟨tbl_5 (List.mem_of_getElem? (i := 169) rfl), rfl⟩
theorem q_5_170 : Cond.methodLink RL 48 yX8_wrong ∈ gw := List.mem_filter.mpr ⟨tbl_5 (List.mem_of_getElem? (i := 170) rfl), rfl⟩
theorem q_5_171 : Cond.instanceMethod yX8_wrong ∈ gw := List.mem_filter.mpr ⟨tbl_5 (List.mem_of_getElem? (i := 171) rfl), rfl⟩
theorem q_5_172 : Cond.selects RX8 yX8_wrong yX8_wrong ∈ gw := List.mem_filter.mpr ⟨tbl_5 (List.mem_of_getElem? (i := 172) rfl), rfl⟩
theorem q_5_173 : Cond.code yX8_wrong prog_10_method_55_code 3 (some .long) ∈ gw := List.mem_filter.mpr ⟨tbl_5 (List.mem_of_getElem? (i := 173) rfl), rfl⟩
theorem q_5_174 : Cond.constantLong RX8 248 (-1) ∈ gw := List.mem_filter.mpr ⟨tbl_5 (List.mem_of_getElem? (i := 174) rfl), rfl⟩
theorem q_5_175 : Cond.methodLink RX8 250 yX8_meanOf ∈ gw := List.mem_filter.mpr ⟨tbl_5 (List.mem_of_getElem? (i := 175) rfl), rfl⟩
theorem q_5_177 : Cond.instanceMethod yX8_meanOf ∈ gw := List.mem_filter.mpr ⟨tbl_5 (List.mem_of_getElem? (i := 177) rfl), rfl⟩
theorem q_5_178 : Cond.code yX8_meanOf prog_10_method_53_code 4 (some .long) ∈ gw := List.mem_filter.mpr ⟨tbl_5 (List.mem_of_getElem? (i := 178) rfl), rfl⟩
theorem q_5_179 : Cond.methodLink RX8 242 yX8_asTheyCome ∈ gw := List.mem_filter.mpr ⟨tbl_5 (List.mem_of_getElem? (i := 179) rfl), rfl⟩
theorem q_5_181 : Cond.instanceMethod yX8_asTheyCome ∈ gw := List.mem_filter.mpr ⟨tbl_5 (List.mem_of_getElem? (i := 181) rfl), rfl⟩
theorem q_5_182 : Cond.code yX8_asTheyCome prog_10_method_52_code 2 none ∈ gw := List.mem_filter.mpr ⟨tbl_5 (List.mem_of_getElem? (i := 182) rfl), rfl⟩
theorem q_5_183 : Cond.methodLink RX8 245 yX8_rightByOrder ∈ gw := List.mem_filter.mpr ⟨tbl_5 (List.mem_of_getElem? (i := 183) rfl), rfl⟩
theorem q_5_185 : Cond.instanceMethod yX8_rightByOrder ∈ gw := List.mem_filter.mpr ⟨tbl_5 (List.mem_of_getElem? (i := 185) rfl), rfl⟩
theorem q_5_186 : Cond.code yX8_rightByOrder prog_10_method_51_code 8 (some .long) ∈ gw := List.mem_filter.mpr ⟨tbl_5 (List.mem_of_getElem? (i := 186) rfl), rfl⟩
theorem q_5_187 : Cond.methodLink RX8 253 yX8_justOf ∈ gw := List.mem_filter.mpr ⟨tbl_5 (List.mem_of_getElem? (i := 187) rfl), rfl⟩
theorem q_5_189 : Cond.instanceMethod yX8_justOf ∈ gw := List.mem_filter.mpr ⟨tbl_5 (List.mem_of_getElem? (i := 189) rfl), rfl⟩
theorem q_5_190 : Cond.code yX8_justOf prog_10_method_54_code 12 (some .long) ∈ gw := List.mem_filter.mpr ⟨tbl_5 (List.mem_of_getElem? (i := 190) rfl), rfl⟩
theorem q_5_191 : Cond.methodLink RL 52 yX8_left ∈ gw := List.mem_filter.mpr ⟨tbl_5 (List.mem_of_getElem? (i := 191) rfl), rfl⟩
theorem q_5_192 : Cond.instanceMethod yX8_left ∈ gw := List.mem_filter.mpr ⟨tbl_5 (List.mem_of_getElem? (i := 192) rfl), rfl⟩
theorem q_5_193 : Cond.selects RX8 yX8_left yX8_left ∈ gw := List.mem_filter.mpr ⟨tbl_5 (List.mem_of_getElem? (i := 193) rfl), rfl⟩
theorem q_5_194 : Cond.code yX8_left prog_10_method_57_code 3 (some .long) ∈ gw := List.mem_filter.mpr ⟨tbl_5 (List.mem_of_getElem? (i := 194) rfl), rfl⟩
theorem q_5_195 : Cond.methodLink RX8 257 yX8_leftOf ∈ gw := List.mem_filter.mpr ⟨tbl_5 (List.mem_of_getElem? (i := 195) rfl), rfl⟩
theorem q_5_197 : Cond.instanceMethod yX8_leftOf ∈ gw := List.mem_filter.mpr ⟨tbl_5 (List.mem_of_getElem? (i := 197) rfl), rfl⟩
theorem q_5_198 : Cond.code yX8_leftOf prog_10_method_56_code 6 (some .long) ∈ gw := List.mem_filter.mpr ⟨tbl_5 (List.mem_of_getElem? (i := 198) rfl), rfl⟩
theorem q_5_199 : Cond.methodLink RL 57 yX8_looks ∈ gw := List.mem_filter.mpr ⟨tbl_5 (List.mem_of_getElem? (i := 199) rfl), rfl⟩
theorem q_5_200 : Cond.instanceMethod yX8_looks ∈ gw := List.mem_filter.mpr ⟨tbl_5 (List.mem_of_getElem? (i := 200) rfl), rfl⟩
theorem q_5_201 : Cond.selects RX8 yX8_looks yX8_looks ∈ gw := List.mem_filter.mpr ⟨tbl_5 (List.mem_of_getElem? (i := 201) rfl), rfl⟩
theorem q_5_202 : Cond.code yX8_looks prog_10_method_59_code 2 (some .long) ∈ gw := List.mem_filter.mpr ⟨tbl_5 (List.mem_of_getElem? (i := 202) rfl), rfl⟩
theorem q_5_203 : Cond.methodLink RX8 260 yX8_looksNow ∈ gw := List.mem_filter.mpr ⟨tbl_5 (List.mem_of_getElem? (i := 203) rfl), rfl⟩
theorem q_5_205 : Cond.instanceMethod yX8_looksNow ∈ gw := List.mem_filter.mpr ⟨tbl_5 (List.mem_of_getElem? (i := 205) rfl), rfl⟩
theorem q_5_206 : Cond.code yX8_looksNow prog_10_method_58_code 9 (some .long) ∈ gw := List.mem_filter.mpr ⟨tbl_5 (List.mem_of_getElem? (i := 206) rfl), rfl⟩
theorem q_5_207 : Cond.methodLink RL 61 yX8_judged ∈ gw := List.mem_filter.mpr ⟨tbl_5 (List.mem_of_getElem? (i := 207) rfl), rfl⟩
theorem q_5_208 : Cond.instanceMethod yX8_judged ∈ gw := List.mem_filter.mpr ⟨tbl_5 (List.mem_of_getElem? (i := 208) rfl), rfl⟩
theorem q_5_209 : Cond.selects RX8 yX8_judged yX8_judged ∈ gw := List.mem_filter.mpr ⟨tbl_5 (List.mem_of_getElem? (i := 209) rfl), rfl⟩
theorem q_5_210 : Cond.code yX8_judged prog_10_method_62_code 6 (some .int) ∈ gw := List.mem_filter.mpr ⟨tbl_5 (List.mem_of_getElem? (i := 210) rfl), rfl⟩
theorem q_5_211 : Cond.methodLink RX8 263 yX8_noSitting ∈ gw := List.mem_filter.mpr ⟨tbl_5 (List.mem_of_getElem? (i := 211) rfl), rfl⟩
theorem q_5_213 : Cond.instanceMethod yX8_noSitting ∈ gw := List.mem_filter.mpr ⟨tbl_5 (List.mem_of_getElem? (i := 213) rfl), rfl⟩
theorem q_5_214 : Cond.code yX8_noSitting prog_10_method_60_code 2 (some .int) ∈ gw := List.mem_filter.mpr ⟨tbl_5 (List.mem_of_getElem? (i := 214) rfl), rfl⟩
theorem q_5_215 : Cond.methodLink RX8 266 yX8_isSeatNow ∈ gw := List.mem_filter.mpr ⟨tbl_5 (List.mem_of_getElem? (i := 215) rfl), rfl⟩
theorem q_5_217 : Cond.instanceMethod yX8_isSeatNow ∈ gw := List.mem_filter.mpr ⟨tbl_5 (List.mem_of_getElem? (i := 217) rfl), rfl⟩
theorem q_5_218 : Cond.code yX8_isSeatNow prog_10_method_61_code 2 (some .boolean) ∈ gw := List.mem_filter.mpr ⟨tbl_5 (List.mem_of_getElem? (i := 218) rfl), rfl⟩
theorem q_5_219 : Cond.methodLink RL 65 yX8_sitting ∈ gw := List.mem_filter.mpr ⟨tbl_5 (List.mem_of_getElem? (i := 219) rfl), rfl⟩
theorem q_5_220 : Cond.instanceMethod yX8_sitting ∈ gw := List.mem_filter.mpr ⟨tbl_5 (List.mem_of_getElem? (i := 220) rfl), rfl⟩
theorem q_5_221 : Cond.selects RX8 yX8_sitting yX8_sitting ∈ gw := List.mem_filter.mpr ⟨tbl_5 (List.mem_of_getElem? (i := 221) rfl), rfl⟩
theorem q_5_222 : Cond.code yX8_sitting prog_10_method_64_code 4 (some .long) ∈ gw := List.mem_filter.mpr ⟨tbl_5 (List.mem_of_getElem? (i := 222) rfl), rfl⟩
theorem q_5_223 : Cond.methodLink RX8 269 yX8_sittingOf ∈ gw := List.mem_filter.mpr ⟨tbl_5 (List.mem_of_getElem? (i := 223) rfl), rfl⟩
theorem q_5_225 : Cond.instanceMethod yX8_sittingOf ∈ gw := List.mem_filter.mpr ⟨tbl_5 (List.mem_of_getElem? (i := 225) rfl), rfl⟩
theorem q_5_226 : Cond.code yX8_sittingOf prog_10_method_63_code 9 (some .long) ∈ gw := List.mem_filter.mpr ⟨tbl_5 (List.mem_of_getElem? (i := 226) rfl), rfl⟩
theorem q_5_227 : Cond.methodLink RL 69 yX8_order ∈ gw := List.mem_filter.mpr ⟨tbl_5 (List.mem_of_getElem? (i := 227) rfl), rfl⟩
theorem q_5_228 : Cond.instanceMethod yX8_order ∈ gw := List.mem_filter.mpr ⟨tbl_5 (List.mem_of_getElem? (i := 228) rfl), rfl⟩
theorem q_5_229 : Cond.selects RX8 yX8_order yX8_order ∈ gw := List.mem_filter.mpr ⟨tbl_5 (List.mem_of_getElem? (i := 229) rfl), rfl⟩
theorem q_5_230 : Cond.code yX8_order prog_10_method_68_code 2 (some .int) ∈ gw := List.mem_filter.mpr ⟨tbl_5 (List.mem_of_getElem? (i := 230) rfl), rfl⟩
theorem q_5_231 : Cond.methodLink RX8 281 yX8_findOrder ∈ gw := List.mem_filter.mpr ⟨tbl_5 (List.mem_of_getElem? (i := 231) rfl), rfl⟩
theorem q_5_233 : Cond.instanceMethod yX8_findOrder ∈ gw := List.mem_filter.mpr ⟨tbl_5 (List.mem_of_getElem? (i := 233) rfl), rfl⟩
theorem q_5_234 : Cond.code yX8_findOrder prog_10_method_67_code 5 none ∈ gw := List.mem_filter.mpr ⟨tbl_5 (List.mem_of_getElem? (i := 234) rfl), rfl⟩
theorem q_5_235 : Cond.methodLink RX8 278 yX8_goesOn ∈ gw := List.mem_filter.mpr ⟨tbl_5 (List.mem_of_getElem? (i := 235) rfl), rfl⟩
theorem q_5_237 : Cond.instanceMethod yX8_goesOn ∈ gw := List.mem_filter.mpr ⟨tbl_5 (List.mem_of_getElem? (i := 237) rfl), rfl⟩
theorem q_5_238 : Cond.code yX8_goesOn prog_10_method_65_code 6 (some .boolean) ∈ gw := List.mem_filter.mpr ⟨tbl_5 (List.mem_of_getElem? (i := 238) rfl), rfl⟩
theorem q_5_239 : Cond.methodLink RX8 272 yX8_swaps ∈ gw := List.mem_filter.mpr ⟨tbl_5 (List.mem_of_getElem? (i := 239) rfl), rfl⟩
theorem q_6_1 : Cond.instanceMethod yX8_swaps ∈ gw := List.mem_filter.mpr ⟨tbl_6 (List.mem_of_getElem? (i := 1) rfl), rfl⟩
theorem q_6_2 : Cond.code yX8_swaps prog_10_method_66_code 4 none ∈ gw := List.mem_filter.mpr ⟨tbl_6 (List.mem_of_getElem? (i := 2) rfl), rfl⟩
theorem q_6_3 : Cond.methodLink RL 73 yX8_best ∈ gw := List.mem_filter.mpr ⟨tbl_6 (List.mem_of_getElem? (i := 3) rfl), rfl⟩
theorem q_6_4 : Cond.instanceMethod yX8_best ∈ gw := List.mem_filter.mpr ⟨tbl_6 (List.mem_of_getElem? (i := 4) rfl), rfl⟩
theorem q_6_5 : Cond.selects RX8 yX8_best yX8_best ∈ gw := List.mem_filter.mpr ⟨tbl_6 (List.mem_of_getElem? (i := 5) rfl), rfl⟩
theorem q_6_6 : Cond.code yX8_best prog_10_method_70_code 2 (some .long) ∈ gw := List.mem_filter.mpr ⟨tbl_6 (List.mem_of_getElem? (i := 6) rfl), rfl⟩
theorem q_6_7 : Cond.methodLink RX8 284 yX8_bestOf ∈ gw := List.mem_filter.mpr ⟨tbl_6 (List.mem_of_getElem? (i := 7) rfl), rfl⟩
theorem q_6_9 : Cond.instanceMethod yX8_bestOf ∈ gw := List.mem_filter.mpr ⟨tbl_6 (List.mem_of_getElem? (i := 9) rfl), rfl⟩
theorem q_6_10 : Cond.code yX8_bestOf prog_10_method_69_code 2 (some .long) ∈ gw := List.mem_filter.mpr ⟨tbl_6 (List.mem_of_getElem? (i := 10) rfl), rfl⟩
theorem q_6_11 : Cond.methodLink RL 77 yX8_back ∈ gw := List.mem_filter.mpr ⟨tbl_6 (List.mem_of_getElem? (i := 11) rfl), rfl⟩
theorem q_6_12 : Cond.instanceMethod yX8_back ∈ gw := List.mem_filter.mpr ⟨tbl_6 (List.mem_of_getElem? (i := 12) rfl), rfl⟩
theorem q_6_13 : Cond.selects RX8 yX8_back yX8_back ∈ gw := List.mem_filter.mpr ⟨tbl_6 (List.mem_of_getElem? (i := 13) rfl), rfl⟩
theorem q_6_14 : Cond.code yX8_back prog_10_method_73_code 4 (some .int) ∈ gw := List.mem_filter.mpr ⟨tbl_6 (List.mem_of_getElem? (i := 14) rfl), rfl⟩
theorem q_6_15 : Cond.methodLink RX8 300 yX8_findRings ∈ gw := List.mem_filter.mpr ⟨tbl_6 (List.mem_of_getElem? (i := 15) rfl), rfl⟩
theorem q_6_17 : Cond.instanceMethod yX8_findRings ∈ gw := List.mem_filter.mpr ⟨tbl_6 (List.mem_of_getElem? (i := 17) rfl), rfl⟩
theorem q_6_18 : Cond.code yX8_findRings prog_10_method_71_code 8 (some .boolean) ∈ gw := List.mem_filter.mpr ⟨tbl_6 (List.mem_of_getElem? (i := 18) rfl), rfl⟩
theorem q_6_19 : Cond.methodLink RX8 297 yX8_sitter ∈ gw := List.mem_filter.mpr ⟨tbl_6 (List.mem_of_getElem? (i := 19) rfl), rfl⟩
theorem q_6_21 : Cond.instanceMethod yX8_sitter ∈ gw := List.mem_filter.mpr ⟨tbl_6 (List.mem_of_getElem? (i := 21) rfl), rfl⟩
theorem q_6_22 : Cond.code yX8_sitter prog_10_method_72_code 5 (some .int) ∈ gw := List.mem_filter.mpr ⟨tbl_6 (List.mem_of_getElem? (i := 22) rfl), rfl⟩
theorem q_6_23 : Cond.methodLink RL 81 yX8_seen ∈ gw := List.mem_filter.mpr ⟨tbl_6 (List.mem_of_getElem? (i := 23) rfl), rfl⟩
theorem q_6_24 : Cond.instanceMethod yX8_seen ∈ gw := List.mem_filter.mpr ⟨tbl_6 (List.mem_of_getElem? (i := 24) rfl), rfl⟩
theorem q_6_25 : Cond.selects RX8 yX8_seen yX8_seen ∈ gw := List.mem_filter.mpr ⟨tbl_6 (List.mem_of_getElem? (i := 25) rfl), rfl⟩
theorem q_6_26 : Cond.code yX8_seen prog_10_method_74_code 3 (some .int) ∈ gw := List.mem_filter.mpr ⟨tbl_6 (List.mem_of_getElem? (i := 26) rfl), rfl⟩
theorem q_6_27 : Cond.constantLong RX8 303 (7) ∈ gw := List.mem_filter.mpr ⟨tbl_6 (List.mem_of_getElem? (i := 27) rfl), rfl⟩
theorem q_6_28 : Cond.methodLink RL 85 yX8_read ∈ gw := List.mem_filter.mpr ⟨tbl_6 (List.mem_of_getElem? (i := 28) rfl), rfl⟩
theorem q_6_29 : Cond.instanceMethod yX8_read ∈ gw := List.mem_filter.mpr ⟨tbl_6 (List.mem_of_getElem? (i := 29) rfl), rfl⟩
theorem q_6_30 : Cond.selects RX8 yX8_read yX8_read ∈ gw := List.mem_filter.mpr ⟨tbl_6 (List.mem_of_getElem? (i := 30) rfl), rfl⟩
theorem q_6_31 : Cond.code yX8_read prog_10_method_75_code 4 (some .int) ∈ gw := List.mem_filter.mpr ⟨tbl_6 (List.mem_of_getElem? (i := 31) rfl), rfl⟩
theorem q_6_32 : Cond.methodLink RX8 308 yX8_seen ∈ gw := List.mem_filter.mpr ⟨tbl_6 (List.mem_of_getElem? (i := 32) rfl), rfl⟩
theorem q_6_33 : Cond.methodLink RL 90 yX8_forget ∈ gw := List.mem_filter.mpr ⟨tbl_6 (List.mem_of_getElem? (i := 33) rfl), rfl⟩
theorem q_6_34 : Cond.instanceMethod yX8_forget ∈ gw := List.mem_filter.mpr ⟨tbl_6 (List.mem_of_getElem? (i := 34) rfl), rfl⟩
theorem q_6_35 : Cond.selects RX8 yX8_forget yX8_forget ∈ gw := List.mem_filter.mpr ⟨tbl_6 (List.mem_of_getElem? (i := 35) rfl), rfl⟩
theorem q_6_36 : Cond.code yX8_forget prog_10_method_76_code 2 (some .int) ∈ gw := List.mem_filter.mpr ⟨tbl_6 (List.mem_of_getElem? (i := 36) rfl), rfl⟩
theorem q_6_37 : Cond.methodLink RL 94 yX8_losers ∈ gw := List.mem_filter.mpr ⟨tbl_6 (List.mem_of_getElem? (i := 37) rfl), rfl⟩
theorem q_6_38 : Cond.instanceMethod yX8_losers ∈ gw := List.mem_filter.mpr ⟨tbl_6 (List.mem_of_getElem? (i := 38) rfl), rfl⟩
theorem q_6_39 : Cond.selects RX8 yX8_losers yX8_losers ∈ gw := List.mem_filter.mpr ⟨tbl_6 (List.mem_of_getElem? (i := 39) rfl), rfl⟩
theorem q_6_40 : Cond.code yX8_losers prog_10_method_80_code 1 (some .int) ∈ gw := List.mem_filter.mpr ⟨tbl_6 (List.mem_of_getElem? (i := 40) rfl), rfl⟩
theorem q_6_41 : Cond.methodLink RX8 318 yX8_losersNow ∈ gw := List.mem_filter.mpr ⟨tbl_6 (List.mem_of_getElem? (i := 41) rfl), rfl⟩
theorem q_6_43 : Cond.instanceMethod yX8_losersNow ∈ gw := List.mem_filter.mpr ⟨tbl_6 (List.mem_of_getElem? (i := 43) rfl), rfl⟩
theorem q_6_44 : Cond.code yX8_losersNow prog_10_method_79_code 3 (some .int) ∈ gw := List.mem_filter.mpr ⟨tbl_6 (List.mem_of_getElem? (i := 44) rfl), rfl⟩
theorem q_6_45 : Cond.methodLink RX8 315 yX8_seenWith ∈ gw := List.mem_filter.mpr ⟨tbl_6 (List.mem_of_getElem? (i := 45) rfl), rfl⟩
theorem q_6_47 : Cond.instanceMethod yX8_seenWith ∈ gw := List.mem_filter.mpr ⟨tbl_6 (List.mem_of_getElem? (i := 47) rfl), rfl⟩
theorem q_6_48 : Cond.code yX8_seenWith prog_10_method_78_code 7 (some .long) ∈ gw := List.mem_filter.mpr ⟨tbl_6 (List.mem_of_getElem? (i := 48) rfl), rfl⟩
theorem q_6_49 : Cond.methodLink RX8 311 yX8_laysBounds ∈ gw := List.mem_filter.mpr ⟨tbl_6 (List.mem_of_getElem? (i := 49) rfl), rfl⟩
theorem q_6_51 : Cond.instanceMethod yX8_laysBounds ∈ gw := List.mem_filter.mpr ⟨tbl_6 (List.mem_of_getElem? (i := 51) rfl), rfl⟩
theorem q_6_52 : Cond.code yX8_laysBounds prog_10_method_77_code 4 (some .boolean) ∈ gw := List.mem_filter.mpr ⟨tbl_6 (List.mem_of_getElem? (i := 52) rfl), rfl⟩
theorem q_6_53 : Cond.methodLink RL 98 yX8_share ∈ gw := List.mem_filter.mpr ⟨tbl_6 (List.mem_of_getElem? (i := 53) rfl), rfl⟩
theorem q_6_54 : Cond.instanceMethod yX8_share ∈ gw := List.mem_filter.mpr ⟨tbl_6 (List.mem_of_getElem? (i := 54) rfl), rfl⟩
theorem q_6_55 : Cond.selects RX8 yX8_share yX8_share ∈ gw := List.mem_filter.mpr ⟨tbl_6 (List.mem_of_getElem? (i := 55) rfl), rfl⟩
theorem q_6_56 : Cond.code yX8_share prog_10_method_81_code 6 (some .long) ∈ gw := List.mem_filter.mpr ⟨tbl_6 (List.mem_of_getElem? (i := 56) rfl), rfl⟩
theorem q_6_57 : Cond.methodLink RL 102 yX8_likeliest ∈ gw := List.mem_filter.mpr ⟨tbl_6 (List.mem_of_getElem? (i := 57) rfl), rfl⟩
theorem q_6_58 : Cond.instanceMethod yX8_likeliest ∈ gw := List.mem_filter.mpr ⟨tbl_6 (List.mem_of_getElem? (i := 58) rfl), rfl⟩
theorem q_6_59 : Cond.selects RX8 yX8_likeliest yX8_likeliest ∈ gw := List.mem_filter.mpr ⟨tbl_6 (List.mem_of_getElem? (i := 59) rfl), rfl⟩
theorem q_6_60 : Cond.code yX8_likeliest prog_10_method_83_code 1 (some .int) ∈ gw := List.mem_filter.mpr ⟨tbl_6 (List.mem_of_getElem? (i := 60) rfl), rfl⟩
theorem q_6_61 : Cond.methodLink RX8 321 yX8_likeliestNow ∈ gw := List.mem_filter.mpr ⟨tbl_6 (List.mem_of_getElem? (i := 61) rfl), rfl⟩
theorem q_6_63 : Cond.instanceMethod yX8_likeliestNow ∈ gw := List.mem_filter.mpr ⟨tbl_6 (List.mem_of_getElem? (i := 63) rfl), rfl⟩
theorem q_6_64 : Cond.code yX8_likeliestNow prog_10_method_82_code 7 (some .int) ∈ gw := List.mem_filter.mpr ⟨tbl_6 (List.mem_of_getElem? (i := 64) rfl), rfl⟩
theorem q_6_65 : Cond.methodLink RL 106 yX8_ask ∈ gw := List.mem_filter.mpr ⟨tbl_6 (List.mem_of_getElem? (i := 65) rfl), rfl⟩
theorem q_6_66 : Cond.instanceMethod yX8_ask ∈ gw := List.mem_filter.mpr ⟨tbl_6 (List.mem_of_getElem? (i := 66) rfl), rfl⟩
theorem q_6_67 : Cond.selects RX8 yX8_ask yX8_ask ∈ gw := List.mem_filter.mpr ⟨tbl_6 (List.mem_of_getElem? (i := 67) rfl), rfl⟩
theorem q_6_68 : Cond.code yX8_ask prog_10_method_87_code 2 (some .int) ∈ gw := List.mem_filter.mpr ⟨tbl_6 (List.mem_of_getElem? (i := 68) rfl), rfl⟩
theorem q_6_69 : Cond.methodLink RX8 330 yX8_askNow ∈ gw := List.mem_filter.mpr ⟨tbl_6 (List.mem_of_getElem? (i := 69) rfl), rfl⟩
theorem q_6_71 : Cond.instanceMethod yX8_askNow ∈ gw := List.mem_filter.mpr ⟨tbl_6 (List.mem_of_getElem? (i := 71) rfl), rfl⟩
theorem q_6_72 : Cond.code yX8_askNow prog_10_method_86_code 7 (some .int) ∈ gw := List.mem_filter.mpr ⟨tbl_6 (List.mem_of_getElem? (i := 72) rfl), rfl⟩
theorem q_6_73 : Cond.methodLink RX8 324 yX8_wasSeen ∈ gw := List.mem_filter.mpr ⟨tbl_6 (List.mem_of_getElem? (i := 73) rfl), rfl⟩
theorem q_6_75 : Cond.instanceMethod yX8_wasSeen ∈ gw := List.mem_filter.mpr ⟨tbl_6 (List.mem_of_getElem? (i := 75) rfl), rfl⟩
theorem q_6_76 : Cond.code yX8_wasSeen prog_10_method_84_code 4 (some .boolean) ∈ gw := List.mem_filter.mpr ⟨tbl_6 (List.mem_of_getElem? (i := 76) rfl), rfl⟩
theorem q_6_77 : Cond.methodLink RX8 327 yX8_worstBy ∈ gw := List.mem_filter.mpr ⟨tbl_6 (List.mem_of_getElem? (i := 77) rfl), rfl⟩
theorem q_6_79 : Cond.instanceMethod yX8_worstBy ∈ gw := List.mem_filter.mpr ⟨tbl_6 (List.mem_of_getElem? (i := 79) rfl), rfl⟩
theorem q_6_80 : Cond.code yX8_worstBy prog_10_method_85_code 7 (some .int) ∈ gw := List.mem_filter.mpr ⟨tbl_6 (List.mem_of_getElem? (i := 80) rfl), rfl⟩
theorem q_6_81 : Cond.methodLink RL 110 yX8_turned ∈ gw := List.mem_filter.mpr ⟨tbl_6 (List.mem_of_getElem? (i := 81) rfl), rfl⟩
theorem q_6_82 : Cond.instanceMethod yX8_turned ∈ gw := List.mem_filter.mpr ⟨tbl_6 (List.mem_of_getElem? (i := 82) rfl), rfl⟩
theorem q_6_83 : Cond.selects RX8 yX8_turned yX8_turned ∈ gw := List.mem_filter.mpr ⟨tbl_6 (List.mem_of_getElem? (i := 83) rfl), rfl⟩
theorem q_6_84 : Cond.code yX8_turned prog_10_method_89_code 4 (some .long) ∈ gw := List.mem_filter.mpr ⟨tbl_6 (List.mem_of_getElem? (i := 84) rfl), rfl⟩
theorem q_6_85 : Cond.constantLong RX8 335 (9) ∈ gw := List.mem_filter.mpr ⟨tbl_6 (List.mem_of_getElem? (i := 85) rfl), rfl⟩
theorem q_6_86 : Cond.methodLink RX8 337 yX8_turnedOf ∈ gw := List.mem_filter.mpr ⟨tbl_6 (List.mem_of_getElem? (i := 86) rfl), rfl⟩
theorem q_6_87 : Cond.static yX8_turnedOf ∈ gw := List.mem_filter.mpr ⟨tbl_6 (List.mem_of_getElem? (i := 87) rfl), rfl⟩
theorem q_6_88 : Cond.code yX8_turnedOf prog_10_method_88_code 6 (some .long) ∈ gw := List.mem_filter.mpr ⟨tbl_6 (List.mem_of_getElem? (i := 88) rfl), rfl⟩
theorem q_6_89 : Cond.constantLong RX8 333 (2520) ∈ gw := List.mem_filter.mpr ⟨tbl_6 (List.mem_of_getElem? (i := 89) rfl), rfl⟩
theorem q_6_90 : Cond.methodLink RL 114 yX8_evening ∈ gw := List.mem_filter.mpr ⟨tbl_6 (List.mem_of_getElem? (i := 90) rfl), rfl⟩
theorem q_6_91 : Cond.instanceMethod yX8_evening ∈ gw := List.mem_filter.mpr ⟨tbl_6 (List.mem_of_getElem? (i := 91) rfl), rfl⟩
theorem q_6_92 : Cond.selects RX8 yX8_evening yX8_evening ∈ gw := List.mem_filter.mpr ⟨tbl_6 (List.mem_of_getElem? (i := 92) rfl), rfl⟩
theorem q_6_93 : Cond.code yX8_evening prog_10_method_93_code 3 (some .int) ∈ gw := List.mem_filter.mpr ⟨tbl_6 (List.mem_of_getElem? (i := 93) rfl), rfl⟩
theorem q_6_94 : Cond.methodLink RX8 350 yX8_eveningOf ∈ gw := List.mem_filter.mpr ⟨tbl_6 (List.mem_of_getElem? (i := 94) rfl), rfl⟩
theorem q_6_96 : Cond.instanceMethod yX8_eveningOf ∈ gw := List.mem_filter.mpr ⟨tbl_6 (List.mem_of_getElem? (i := 96) rfl), rfl⟩
theorem q_6_97 : Cond.code yX8_eveningOf prog_10_method_92_code 4 (some .int) ∈ gw := List.mem_filter.mpr ⟨tbl_6 (List.mem_of_getElem? (i := 97) rfl), rfl⟩
theorem q_6_98 : Cond.methodLink RX8 347 yX8_findEvening ∈ gw := List.mem_filter.mpr ⟨tbl_6 (List.mem_of_getElem? (i := 98) rfl), rfl⟩
theorem q_6_100 : Cond.instanceMethod yX8_findEvening ∈ gw := List.mem_filter.mpr ⟨tbl_6 (List.mem_of_getElem? (i := 100) rfl), rfl⟩
theorem q_6_101 : Cond.code yX8_findEvening prog_10_method_91_code 9 (some .int) ∈ gw := List.mem_filter.mpr ⟨tbl_6 (List.mem_of_getElem? (i := 101) rfl), rfl⟩
theorem q_6_102 : Cond.methodLink RX8 344 yX8_lot ∈ gw := List.mem_filter.mpr ⟨tbl_6 (List.mem_of_getElem? (i := 102) rfl), rfl⟩
theorem q_6_104 : Cond.instanceMethod yX8_lot ∈ gw := List.mem_filter.mpr ⟨tbl_6 (List.mem_of_getElem? (i := 104) rfl), rfl⟩
theorem q_6_105 : Cond.code yX8_lot prog_10_method_90_code 2 (some .int) ∈ gw := List.mem_filter.mpr ⟨tbl_6 (List.mem_of_getElem? (i := 105) rfl), rfl⟩
theorem q_6_106 : Cond.constant RX8 340 (1103515245) ∈ gw := List.mem_filter.mpr ⟨tbl_6 (List.mem_of_getElem? (i := 106) rfl), rfl⟩
theorem q_6_107 : Cond.methodLink RL 141 yX8_write ∈ gw := List.mem_filter.mpr ⟨tbl_6 (List.mem_of_getElem? (i := 107) rfl), rfl⟩
theorem q_6_108 : Cond.instanceMethod yX8_write ∈ gw := List.mem_filter.mpr ⟨tbl_6 (List.mem_of_getElem? (i := 108) rfl), rfl⟩
theorem q_6_109 : Cond.selects RX8 yX8_write yX8_write ∈ gw := List.mem_filter.mpr ⟨tbl_6 (List.mem_of_getElem? (i := 109) rfl), rfl⟩
theorem q_6_110 : Cond.code yX8_write prog_10_method_94_code 5 (some .int) ∈ gw := List.mem_filter.mpr ⟨tbl_6 (List.mem_of_getElem? (i := 110) rfl), rfl⟩
theorem q_6_111 : Cond.methodLink RL 145 yX8_count ∈ gw := List.mem_filter.mpr ⟨tbl_6 (List.mem_of_getElem? (i := 111) rfl), rfl⟩
theorem q_6_112 : Cond.instanceMethod yX8_count ∈ gw := List.mem_filter.mpr ⟨tbl_6 (List.mem_of_getElem? (i := 112) rfl), rfl⟩
theorem q_6_113 : Cond.selects RX8 yX8_count yX8_count ∈ gw := List.mem_filter.mpr ⟨tbl_6 (List.mem_of_getElem? (i := 113) rfl), rfl⟩
theorem q_6_114 : Cond.code yX8_count prog_10_method_95_code 4 (some .int) ∈ gw := List.mem_filter.mpr ⟨tbl_6 (List.mem_of_getElem? (i := 114) rfl), rfl⟩
theorem q_6_115 : Cond.methodLink RL 150 yX8_digest ∈ gw := List.mem_filter.mpr ⟨tbl_6 (List.mem_of_getElem? (i := 115) rfl), rfl⟩
theorem q_6_116 : Cond.instanceMethod yX8_digest ∈ gw := List.mem_filter.mpr ⟨tbl_6 (List.mem_of_getElem? (i := 116) rfl), rfl⟩
theorem q_6_117 : Cond.selects RX8 yX8_digest yX8_digest ∈ gw := List.mem_filter.mpr ⟨tbl_6 (List.mem_of_getElem? (i := 117) rfl), rfl⟩
theorem q_6_118 : Cond.code yX8_digest prog_10_method_96_code 5 (some .long) ∈ gw := List.mem_filter.mpr ⟨tbl_6 (List.mem_of_getElem? (i := 118) rfl), rfl⟩
theorem q_6_119 : Cond.constantLong RX8 353 (17) ∈ gw := List.mem_filter.mpr ⟨tbl_6 (List.mem_of_getElem? (i := 119) rfl), rfl⟩
theorem q_6_120 : Cond.constantLong RX8 355 (31) ∈ gw := List.mem_filter.mpr ⟨tbl_6 (List.mem_of_getElem? (i := 120) rfl), rfl⟩
theorem q_6_121 : Cond.methodLink RX8 357 yX8_count ∈ gw := List.mem_filter.mpr ⟨tbl_6 (List.mem_of_getElem? (i := 121) rfl), rfl⟩
set_option maxRecDepth 20000 in
theorem inX0 : ∀ w ∈ wsX00, w ∈ gw := by decide +kernel
set_option maxRecDepth 20000 in
theorem inX1 : ∀ w ∈ wsX10, w ∈ gw := by decide +kernel
set_option maxRecDepth 20000 in
theorem inX2 : ∀ w ∈ wsX20, w ∈ gw := by decide +kernel
set_option maxRecDepth 20000 in
theorem inX3 : ∀ w ∈ wsX30, w ∈ gw := by decide +kernel
set_option maxRecDepth 20000 in
theorem inX4 : ∀ w ∈ wsX40, w ∈ gw := by decide +kernel
set_option maxRecDepth 20000 in
theorem inX5 : ∀ w ∈ wsX50, w ∈ gw := by decide +kernel
set_option maxRecDepth 20000 in
theorem inX6 : ∀ w ∈ wsX60, w ∈ gw := by decide +kernel
set_option maxRecDepth 20000 in
theorem inX7 : ∀ w ∈ wsX70, w ∈ gw := by decide +kernel
set_option maxRecDepth 20000 in
theorem inX8 : ∀ w ∈ wsX80, w ∈ gw := by decide +kernel
