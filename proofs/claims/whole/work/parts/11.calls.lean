/-! jumps, switches, constants, calls -/
def zi32 (a : Int) : Bool := decide (-2147483648 ≤ a) && decide (a ≤ 2147483647)
/-- jumps stay within; switches are as they must be -/
def zofs (e : Nat × Instr) : Bool := match e.2 with
  | .goto o | .ifnull o | .ifnonnull o | .if_icmp _ o | .ifCond _ o => decide (0 ≤ (e.1 : Int) + o)
  | .tableswitch d lo hi os => decide (0 ≤ (e.1 : Int) + d) && (os.toList.all fun o => decide (0 ≤ (e.1 : Int) + o)) && zi32 lo && zi32 hi && decide (hi - lo + 1 = (os.toList.length : Int)) && decide (lo ≤ hi)
  | .lookupswitch d ps => decide (0 ≤ (e.1 : Int) + d) && (ps.toList.all fun q => decide (0 ≤ (e.1 : Int) + q.2) && zi32 q.1) && (ps.toList.zip (ps.toList.drop 1)).all (fun (a, next) => a.1 < next.1)
  | _ => true
set_option maxRecDepth 20000 in
theorem zof_Acts_forget : zc_Acts_forget.all zofs = true := by decide +kernel
set_option maxRecDepth 20000 in
theorem zof_Acts_perform : zc_Acts_perform.all zofs = true := by decide +kernel
set_option maxRecDepth 20000 in
theorem zof_Acts_run : zc_Acts_run.all zofs = true := by decide +kernel
set_option maxRecDepth 20000 in
theorem zof_Acts_bodyOf : zc_Acts_bodyOf.all zofs = true := by decide +kernel
set_option maxRecDepth 20000 in
theorem zof_Acts_begin : zc_Acts_begin.all zofs = true := by decide +kernel
set_option maxRecDepth 20000 in
theorem zof_Garden_clear : zc_Garden_clear.all zofs = true := by decide +kernel
set_option maxRecDepth 20000 in
theorem zof_Garden_begin : zc_Garden_begin.all zofs = true := by decide +kernel
set_option maxRecDepth 20000 in
theorem zof_Garden_put : zc_Garden_put.all zofs = true := by decide +kernel
set_option maxRecDepth 20000 in
theorem zof_Garden_test : zc_Garden_test.all zofs = true := by decide +kernel
set_option maxRecDepth 20000 in
theorem zof_Garden_slowness : zc_Garden_slowness.all zofs = true := by decide +kernel
set_option maxRecDepth 20000 in
theorem zof_Garden_stands : zc_Garden_stands.all zofs = true := by decide +kernel
set_option maxRecDepth 20000 in
theorem zof_Hearing_measure : zc_Hearing_measure.all zofs = true := by decide +kernel
set_option maxRecDepth 20000 in
theorem zof_Hearing_spread : zc_Hearing_spread.all zofs = true := by decide +kernel
set_option maxRecDepth 20000 in
theorem zof_Hearing_soonest : zc_Hearing_soonest.all zofs = true := by decide +kernel
set_option maxRecDepth 20000 in
theorem zof_Hearing_passOn : zc_Hearing_passOn.all zofs = true := by decide +kernel
set_option maxRecDepth 20000 in
theorem zof_Hearing_speak : zc_Hearing_speak.all zofs = true := by decide +kernel
set_option maxRecDepth 20000 in
theorem zof_Hearing_wordAt : zc_Hearing_wordAt.all zofs = true := by decide +kernel
set_option maxRecDepth 20000 in
theorem zof_Hedge_become : zc_Hedge_become.all zofs = true := by decide +kernel
set_option maxRecDepth 20000 in
theorem zof_Hedge_add : zc_Hedge_add.all zofs = true := by decide +kernel
set_option maxRecDepth 20000 in
theorem zof_Hedge_has : zc_Hedge_has.all zofs = true := by decide +kernel
set_option maxRecDepth 20000 in
theorem zof_Hedge_isDead : zc_Hedge_isDead.all zofs = true := by decide +kernel
set_option maxRecDepth 20000 in
theorem zof_Hedge_frost : zc_Hedge_frost.all zofs = true := by decide +kernel
set_option maxRecDepth 20000 in
theorem zof_Hedge_lose : zc_Hedge_lose.all zofs = true := by decide +kernel
set_option maxRecDepth 20000 in
theorem zof_Hedge_paceOf : zc_Hedge_paceOf.all zofs = true := by decide +kernel
set_option maxRecDepth 20000 in
theorem zof_Hedge_takesOf : zc_Hedge_takesOf.all zofs = true := by decide +kernel
set_option maxRecDepth 20000 in
theorem zof_Hedge_passedOn : zc_Hedge_passedOn.all zofs = true := by decide +kernel
set_option maxRecDepth 20000 in
theorem zof_Hedge_clipped : zc_Hedge_clipped.all zofs = true := by decide +kernel
set_option maxRecDepth 20000 in
theorem zof_Hedge_judged : zc_Hedge_judged.all zofs = true := by decide +kernel
set_option maxRecDepth 20000 in
theorem zof_Qu_say : zc_Qu_say.all zofs = true := by decide +kernel
set_option maxRecDepth 20000 in
theorem zof_Qu_hearingOf : zc_Qu_hearingOf.all zofs = true := by decide +kernel
set_option maxRecDepth 20000 in
theorem zof_Qu_hearersWithin : zc_Qu_hearersWithin.all zofs = true := by decide +kernel
set_option maxRecDepth 20000 in
theorem zof_Qu_hearersOfJust : zc_Qu_hearersOfJust.all zofs = true := by decide +kernel
set_option maxRecDepth 20000 in
theorem zof_Qu_latest : zc_Qu_latest.all zofs = true := by decide +kernel
set_option maxRecDepth 20000 in
theorem zof_Qu_reaches : zc_Qu_reaches.all zofs = true := by decide +kernel
set_option maxRecDepth 20000 in
theorem zof_Qu_fewestBetween : zc_Qu_fewestBetween.all zofs = true := by decide +kernel
set_option maxRecDepth 20000 in
theorem zof_Qu_eachNeededBetween : zc_Qu_eachNeededBetween.all zofs = true := by decide +kernel
set_option maxRecDepth 20000 in
theorem zof_Qu_comingBack : zc_Qu_comingBack.all zofs = true := by decide +kernel
set_option maxRecDepth 20000 in
theorem zof_Qu_hearersOfTheFirst : zc_Qu_hearersOfTheFirst.all zofs = true := by decide +kernel
set_option maxRecDepth 20000 in
theorem zof_Qu_soonestTouch : zc_Qu_soonestTouch.all zofs = true := by decide +kernel
set_option maxRecDepth 20000 in
theorem zof_Qu_hoursWithTouch : zc_Qu_hoursWithTouch.all zofs = true := by decide +kernel
set_option maxRecDepth 20000 in
theorem zof_Qu_bestListener : zc_Qu_bestListener.all zofs = true := by decide +kernel
set_option maxRecDepth 20000 in
theorem zof_Qu_unlikeHearings : zc_Qu_unlikeHearings.all zofs = true := by decide +kernel
set_option maxRecDepth 20000 in
theorem zof_Qu_waysToHaveSaid : zc_Qu_waysToHaveSaid.all zofs = true := by decide +kernel
set_option maxRecDepth 20000 in
theorem zof_Qu_isSeenInTime : zc_Qu_isSeenInTime.all zofs = true := by decide +kernel
set_option maxRecDepth 20000 in
theorem zof_Qu_isSeenAsWords : zc_Qu_isSeenAsWords.all zofs = true := by decide +kernel
set_option maxRecDepth 20000 in
theorem zof_Qu_oddsBetween : zc_Qu_oddsBetween.all zofs = true := by decide +kernel
set_option maxRecDepth 20000 in
theorem zof_Qu_meanHours : zc_Qu_meanHours.all zofs = true := by decide +kernel
set_option maxRecDepth 20000 in
theorem zof_Qu_lowest : zc_Qu_lowest.all zofs = true := by decide +kernel
set_option maxRecDepth 20000 in
theorem zof_Qu_hoursAfterThePlan : zc_Qu_hoursAfterThePlan.all zofs = true := by decide +kernel
set_option maxRecDepth 20000 in
theorem zof_Qu_firstWrongInTheBook : zc_Qu_firstWrongInTheBook.all zofs = true := by decide +kernel
set_option maxRecDepth 20000 in
theorem zof_Reader_add : zc_Reader_add.all zofs = true := by decide +kernel
set_option maxRecDepth 20000 in
theorem zof_Reader_readInto : zc_Reader_readInto.all zofs = true := by decide +kernel
set_option maxRecDepth 20000 in
theorem zof_Reader_isClause : zc_Reader_isClause.all zofs = true := by decide +kernel
set_option maxRecDepth 20000 in
theorem zof_Reader_spelled : zc_Reader_spelled.all zofs = true := by decide +kernel
set_option maxRecDepth 20000 in
theorem zof_Reader_isEither : zc_Reader_isEither.all zofs = true := by decide +kernel
set_option maxRecDepth 20000 in
theorem zof_Reader_isBoth : zc_Reader_isBoth.all zofs = true := by decide +kernel
set_option maxRecDepth 20000 in
theorem zof_Reader_isPart : zc_Reader_isPart.all zofs = true := by decide +kernel
set_option maxRecDepth 20000 in
theorem zof_Reader_isTest : zc_Reader_isTest.all zofs = true := by decide +kernel
set_option maxRecDepth 20000 in
theorem zof_Reader_number : zc_Reader_number.all zofs = true := by decide +kernel
set_option maxRecDepth 20000 in
theorem zof_Reader_skipsAll : zc_Reader_skipsAll.all zofs = true := by decide +kernel
set_option maxRecDepth 20000 in
theorem zof_Reader_skips : zc_Reader_skips.all zofs = true := by decide +kernel
set_option maxRecDepth 20000 in
theorem zof_Reader_here : zc_Reader_here.all zofs = true := by decide +kernel
set_option maxRecDepth 20000 in
theorem zof_Rows_become : zc_Rows_become.all zofs = true := by decide +kernel
set_option maxRecDepth 20000 in
theorem zof_Rows_add : zc_Rows_add.all zofs = true := by decide +kernel
set_option maxRecDepth 20000 in
theorem zof_Rows_empty : zc_Rows_empty.all zofs = true := by decide +kernel
set_option maxRecDepth 20000 in
theorem zof_Rows_cell : zc_Rows_cell.all zofs = true := by decide +kernel
set_option maxRecDepth 20000 in
theorem zof_Tape_become : zc_Tape_become.all zofs = true := by decide +kernel
set_option maxRecDepth 20000 in
theorem zof_Tape_fitted : zc_Tape_fitted.all zofs = true := by decide +kernel
set_option maxRecDepth 20000 in
theorem zof_Tape_spans : zc_Tape_spans.all zofs = true := by decide +kernel
set_option maxRecDepth 20000 in
theorem zof_Box_plant : zc_Box_plant.all zofs = true := by decide +kernel
set_option maxRecDepth 20000 in
theorem zof_Box_of : zc_Box_of.all zofs = true := by decide +kernel
set_option maxRecDepth 20000 in
theorem zof_Box_says : zc_Box_says.all zofs = true := by decide +kernel
set_option maxRecDepth 20000 in
theorem zof_Box_touch : zc_Box_touch.all zofs = true := by decide +kernel
set_option maxRecDepth 20000 in
theorem zof_Box_kill : zc_Box_kill.all zofs = true := by decide +kernel
set_option maxRecDepth 20000 in
theorem zof_Box_row : zc_Box_row.all zofs = true := by decide +kernel
set_option maxRecDepth 20000 in
theorem zof_Box_feed : zc_Box_feed.all zofs = true := by decide +kernel
set_option maxRecDepth 20000 in
theorem zof_Box_garden : zc_Box_garden.all zofs = true := by decide +kernel
set_option maxRecDepth 20000 in
theorem zof_Box_told : zc_Box_told.all zofs = true := by decide +kernel
set_option maxRecDepth 20000 in
theorem zof_Box_pass : zc_Box_pass.all zofs = true := by decide +kernel
set_option maxRecDepth 20000 in
theorem zof_Box_heard : zc_Box_heard.all zofs = true := by decide +kernel
set_option maxRecDepth 20000 in
theorem zof_Box_by : zc_Box_by.all zofs = true := by decide +kernel
set_option maxRecDepth 20000 in
theorem zof_Box_right : zc_Box_right.all zofs = true := by decide +kernel
set_option maxRecDepth 20000 in
theorem zof_Box_last : zc_Box_last.all zofs = true := by decide +kernel
set_option maxRecDepth 20000 in
theorem zof_Box_cut : zc_Box_cut.all zofs = true := by decide +kernel
set_option maxRecDepth 20000 in
theorem zof_Box_needed : zc_Box_needed.all zofs = true := by decide +kernel
set_option maxRecDepth 20000 in
theorem zof_Box_round : zc_Box_round.all zofs = true := by decide +kernel
set_option maxRecDepth 20000 in
theorem zof_Box_meet : zc_Box_meet.all zofs = true := by decide +kernel
set_option maxRecDepth 20000 in
theorem zof_Box_join : zc_Box_join.all zofs = true := by decide +kernel
set_option maxRecDepth 20000 in
theorem zof_Box_listen : zc_Box_listen.all zofs = true := by decide +kernel
set_option maxRecDepth 20000 in
theorem zof_Box_see : zc_Box_see.all zofs = true := by decide +kernel
set_option maxRecDepth 20000 in
theorem zof_Box_who : zc_Box_who.all zofs = true := by decide +kernel
set_option maxRecDepth 20000 in
theorem zof_Box_odds : zc_Box_odds.all zofs = true := by decide +kernel
set_option maxRecDepth 20000 in
theorem zof_Box_mean : zc_Box_mean.all zofs = true := by decide +kernel
set_option maxRecDepth 20000 in
theorem zof_Box_plan : zc_Box_plan.all zofs = true := by decide +kernel
set_option maxRecDepth 20000 in
theorem zof_Box_planned : zc_Box_planned.all zofs = true := by decide +kernel
set_option maxRecDepth 20000 in
theorem zof_Box_book : zc_Box_book.all zofs = true := by decide +kernel
set_option maxRecDepth 20000 in
theorem zof_Box_looked : zc_Box_looked.all zofs = true := by decide +kernel
set_option maxRecDepth 20000 in
theorem zof_Box_judge : zc_Box_judge.all zofs = true := by decide +kernel
set_option maxRecDepth 20000 in
theorem zof_Box_image : zc_Box_image.all zofs = true := by decide +kernel
set_option maxRecDepth 20000 in
theorem zof_Box_undo : zc_Box_undo.all zofs = true := by decide +kernel
set_option maxRecDepth 20000 in
theorem zof_Box_act : zc_Box_act.all zofs = true := by decide +kernel
set_option maxRecDepth 20000 in
theorem zof_Box_trace : zc_Box_trace.all zofs = true := by decide +kernel
set_option maxRecDepth 20000 in
theorem zof_Box_taken : zc_Box_taken.all zofs = true := by decide +kernel
set_option maxRecDepth 20000 in
theorem zof_Box_count : zc_Box_count.all zofs = true := by decide +kernel
set_option maxRecDepth 20000 in
theorem zof_Box_tape : zc_Box_tape.all zofs = true := by decide +kernel
set_option maxRecDepth 20000 in
theorem zof_Box_item : zc_Box_item.all zofs = true := by decide +kernel
set_option maxRecDepth 20000 in
theorem zof_Box_read : zc_Box_read.all zofs = true := by decide +kernel
set_option maxRecDepth 20000 in
theorem zof_Box_shift : zc_Box_shift.all zofs = true := by decide +kernel
set_option maxRecDepth 20000 in
theorem zof_Box_isWord : zc_Box_isWord.all zofs = true := by decide +kernel
set_option maxRecDepth 20000 in
theorem zof_Box_isTape : zc_Box_isTape.all zofs = true := by decide +kernel
set_option maxRecDepth 20000 in
theorem zof_Box_isUnder : zc_Box_isUnder.all zofs = true := by decide +kernel
set_option maxRecDepth 20000 in
theorem zof_Box_bit : zc_Box_bit.all zofs = true := by decide +kernel
set_option maxRecDepth 20000 in
theorem zof_Box_holds : zc_Box_holds.all zofs = true := by decide +kernel
set_option maxRecDepth 20000 in
theorem zof_Box_with : zc_Box_with.all zofs = true := by decide +kernel
set_option maxRecDepth 20000 in
theorem zof_Mod_in : zc_Mod_in.all zofs = true := by decide +kernel
set_option maxRecDepth 20000 in
theorem zof_Mod_has : zc_Mod_has.all zofs = true := by decide +kernel
set_option maxRecDepth 20000 in
theorem zof_Mod_ones : zc_Mod_ones.all zofs = true := by decide +kernel
set_option maxRecDepth 20000 in
theorem zof_Mod_isPlant : zc_Mod_isPlant.all zofs = true := by decide +kernel
set_option maxRecDepth 20000 in
theorem zof_Mod_isWord : zc_Mod_isWord.all zofs = true := by decide +kernel
set_option maxRecDepth 20000 in
theorem zof_Mod_plant : zc_Mod_plant.all zofs = true := by decide +kernel
set_option maxRecDepth 20000 in
theorem zof_Mod_touch : zc_Mod_touch.all zofs = true := by decide +kernel
set_option maxRecDepth 20000 in
theorem zof_Mod_kill : zc_Mod_kill.all zofs = true := by decide +kernel
set_option maxRecDepth 20000 in
theorem zof_Mod_row : zc_Mod_row.all zofs = true := by decide +kernel
set_option maxRecDepth 20000 in
theorem zof_Mod_feed : zc_Mod_feed.all zofs = true := by decide +kernel
set_option maxRecDepth 20000 in
theorem zof_Mod_next : zc_Mod_next.all zofs = true := by decide +kernel
set_option maxRecDepth 20000 in
theorem zof_Mod_takes : zc_Mod_takes.all zofs = true := by decide +kernel
set_option maxRecDepth 20000 in
theorem zof_Mod_takesWord : zc_Mod_takesWord.all zofs = true := by decide +kernel
set_option maxRecDepth 20000 in
theorem zof_Mod_isDigit : zc_Mod_isDigit.all zofs = true := by decide +kernel
set_option maxRecDepth 20000 in
theorem zof_Mod_takesNumber : zc_Mod_takesNumber.all zofs = true := by decide +kernel
set_option maxRecDepth 20000 in
theorem zof_Mod_emits : zc_Mod_emits.all zofs = true := by decide +kernel
set_option maxRecDepth 20000 in
theorem zof_Mod_whole : zc_Mod_whole.all zofs = true := by decide +kernel
set_option maxRecDepth 20000 in
theorem zof_Mod_settle : zc_Mod_settle.all zofs = true := by decide +kernel
set_option maxRecDepth 20000 in
theorem zof_Mod_place : zc_Mod_place.all zofs = true := by decide +kernel
set_option maxRecDepth 20000 in
theorem zof_Mod_takesTest : zc_Mod_takesTest.all zofs = true := by decide +kernel
set_option maxRecDepth 20000 in
theorem zof_Mod_takesE : zc_Mod_takesE.all zofs = true := by decide +kernel
set_option maxRecDepth 20000 in
theorem zof_Mod_takesHead : zc_Mod_takesHead.all zofs = true := by decide +kernel
set_option maxRecDepth 20000 in
theorem zof_Mod_takesClause : zc_Mod_takesClause.all zofs = true := by decide +kernel
set_option maxRecDepth 20000 in
theorem zof_Mod_goesText : zc_Mod_goesText.all zofs = true := by decide +kernel
set_option maxRecDepth 20000 in
theorem zof_Mod_garden : zc_Mod_garden.all zofs = true := by decide +kernel
set_option maxRecDepth 20000 in
theorem zof_Mod_begin : zc_Mod_begin.all zofs = true := by decide +kernel
set_option maxRecDepth 20000 in
theorem zof_Mod_behind : zc_Mod_behind.all zofs = true := by decide +kernel
set_option maxRecDepth 20000 in
theorem zof_Mod_lastOf : zc_Mod_lastOf.all zofs = true := by decide +kernel
set_option maxRecDepth 20000 in
theorem zof_Mod_frost : zc_Mod_frost.all zofs = true := by decide +kernel
set_option maxRecDepth 20000 in
theorem zof_Mod_lose : zc_Mod_lose.all zofs = true := by decide +kernel
set_option maxRecDepth 20000 in
theorem zof_Mod_factOf : zc_Mod_factOf.all zofs = true := by decide +kernel
set_option maxRecDepth 20000 in
theorem zof_Mod_holds : zc_Mod_holds.all zofs = true := by decide +kernel
set_option maxRecDepth 20000 in
theorem zof_Mod_atLeastOne : zc_Mod_atLeastOne.all zofs = true := by decide +kernel
set_option maxRecDepth 20000 in
theorem zof_Mod_pace : zc_Mod_pace.all zofs = true := by decide +kernel
set_option maxRecDepth 20000 in
theorem zof_Mod_takesLong : zc_Mod_takesLong.all zofs = true := by decide +kernel
set_option maxRecDepth 20000 in
theorem zof_Mod_saysOf : zc_Mod_saysOf.all zofs = true := by decide +kernel
set_option maxRecDepth 20000 in
theorem zof_Mod_says : zc_Mod_says.all zofs = true := by decide +kernel
set_option maxRecDepth 20000 in
theorem zof_Mod_of : zc_Mod_of.all zofs = true := by decide +kernel
set_option maxRecDepth 20000 in
theorem zof_Mod_told : zc_Mod_told.all zofs = true := by decide +kernel
set_option maxRecDepth 20000 in
theorem zof_Mod_pass : zc_Mod_pass.all zofs = true := by decide +kernel
set_option maxRecDepth 20000 in
theorem zof_Mod_clears : zc_Mod_clears.all zofs = true := by decide +kernel
set_option maxRecDepth 20000 in
theorem zof_Mod_saidTo : zc_Mod_saidTo.all zofs = true := by decide +kernel
set_option maxRecDepth 20000 in
theorem zof_Mod_nextOne : zc_Mod_nextOne.all zofs = true := by decide +kernel
set_option maxRecDepth 20000 in
theorem zof_Mod_passes : zc_Mod_passes.all zofs = true := by decide +kernel
set_option maxRecDepth 20000 in
theorem zof_Mod_spreads : zc_Mod_spreads.all zofs = true := by decide +kernel
set_option maxRecDepth 20000 in
theorem zof_Mod_lay : zc_Mod_lay.all zofs = true := by decide +kernel
set_option maxRecDepth 20000 in
theorem zof_Mod_whenOf : zc_Mod_whenOf.all zofs = true := by decide +kernel
set_option maxRecDepth 20000 in
theorem zof_Mod_heard : zc_Mod_heard.all zofs = true := by decide +kernel
set_option maxRecDepth 20000 in
theorem zof_Mod_by : zc_Mod_by.all zofs = true := by decide +kernel
set_option maxRecDepth 20000 in
theorem zof_Mod_right : zc_Mod_right.all zofs = true := by decide +kernel
set_option maxRecDepth 20000 in
theorem zof_Mod_last : zc_Mod_last.all zofs = true := by decide +kernel
set_option maxRecDepth 20000 in
theorem zof_Mod_isCutBy : zc_Mod_isCutBy.all zofs = true := by decide +kernel
set_option maxRecDepth 20000 in
theorem zof_Mod_cut : zc_Mod_cut.all zofs = true := by decide +kernel
set_option maxRecDepth 20000 in
theorem zof_Mod_needed : zc_Mod_needed.all zofs = true := by decide +kernel
set_option maxRecDepth 20000 in
theorem zof_Mod_round : zc_Mod_round.all zofs = true := by decide +kernel
set_option maxRecDepth 20000 in
theorem zof_Mod_meet : zc_Mod_meet.all zofs = true := by decide +kernel
set_option maxRecDepth 20000 in
theorem zof_Mod_join : zc_Mod_join.all zofs = true := by decide +kernel
set_option maxRecDepth 20000 in
theorem zof_Mod_listen : zc_Mod_listen.all zofs = true := by decide +kernel
set_option maxRecDepth 20000 in
theorem zof_Mod_see : zc_Mod_see.all zofs = true := by decide +kernel
set_option maxRecDepth 20000 in
theorem zof_Mod_who : zc_Mod_who.all zofs = true := by decide +kernel
set_option maxRecDepth 20000 in
theorem zof_Mod_divisor : zc_Mod_divisor.all zofs = true := by decide +kernel
set_option maxRecDepth 20000 in
theorem zof_Mod_lowest : zc_Mod_lowest.all zofs = true := by decide +kernel
set_option maxRecDepth 20000 in
theorem zof_Mod_odds : zc_Mod_odds.all zofs = true := by decide +kernel
set_option maxRecDepth 20000 in
theorem zof_Mod_mean : zc_Mod_mean.all zofs = true := by decide +kernel
set_option maxRecDepth 20000 in
theorem zof_Mod_plan : zc_Mod_plan.all zofs = true := by decide +kernel
set_option maxRecDepth 20000 in
theorem zof_Mod_planned : zc_Mod_planned.all zofs = true := by decide +kernel
set_option maxRecDepth 20000 in
theorem zof_Mod_book : zc_Mod_book.all zofs = true := by decide +kernel
set_option maxRecDepth 20000 in
theorem zof_Mod_looked : zc_Mod_looked.all zofs = true := by decide +kernel
set_option maxRecDepth 20000 in
theorem zof_Mod_judge : zc_Mod_judge.all zofs = true := by decide +kernel
set_option maxRecDepth 20000 in
theorem zof_Mod_image : zc_Mod_image.all zofs = true := by decide +kernel
set_option maxRecDepth 20000 in
theorem zof_Mod_undo : zc_Mod_undo.all zofs = true := by decide +kernel
set_option maxRecDepth 20000 in
theorem zof_Mod_body : zc_Mod_body.all zofs = true := by decide +kernel
set_option maxRecDepth 20000 in
theorem zof_Mod_plantHears : zc_Mod_plantHears.all zofs = true := by decide +kernel
set_option maxRecDepth 20000 in
theorem zof_Mod_hearsAct : zc_Mod_hearsAct.all zofs = true := by decide +kernel
set_option maxRecDepth 20000 in
theorem zof_Mod_plantSays : zc_Mod_plantSays.all zofs = true := by decide +kernel
set_option maxRecDepth 20000 in
theorem zof_Mod_privetSays : zc_Mod_privetSays.all zofs = true := by decide +kernel
set_option maxRecDepth 20000 in
theorem zof_Mod_saysAct : zc_Mod_saysAct.all zofs = true := by decide +kernel
set_option maxRecDepth 20000 in
theorem zof_Mod_plantTells : zc_Mod_plantTells.all zofs = true := by decide +kernel
set_option maxRecDepth 20000 in
theorem zof_Mod_tellsAct : zc_Mod_tellsAct.all zofs = true := by decide +kernel
set_option maxRecDepth 20000 in
theorem zof_Mod_act : zc_Mod_act.all zofs = true := by decide +kernel
set_option maxRecDepth 20000 in
theorem zof_Mod_trace : zc_Mod_trace.all zofs = true := by decide +kernel
set_option maxRecDepth 20000 in
theorem zof_Mod_taken : zc_Mod_taken.all zofs = true := by decide +kernel
set_option maxRecDepth 20000 in
theorem zof_Mod_count : zc_Mod_count.all zofs = true := by decide +kernel
set_option maxRecDepth 20000 in
theorem zof_Mod_isTape : zc_Mod_isTape.all zofs = true := by decide +kernel
set_option maxRecDepth 20000 in
theorem zof_Mod_tape : zc_Mod_tape.all zofs = true := by decide +kernel
set_option maxRecDepth 20000 in
theorem zof_Mod_narrow : zc_Mod_narrow.all zofs = true := by decide +kernel
set_option maxRecDepth 20000 in
theorem zof_Mod_item : zc_Mod_item.all zofs = true := by decide +kernel
set_option maxRecDepth 20000 in
theorem zof_Mod_read : zc_Mod_read.all zofs = true := by decide +kernel
set_option maxRecDepth 20000 in
theorem zof_Mod_shift : zc_Mod_shift.all zofs = true := by decide +kernel
set_option maxRecDepth 20000 in
theorem zof_Int_bitCount : zc_Int_bitCount.all zofs = true := by decide +kernel
set_option maxRecDepth 20000 in
theorem zof_Str_length : zc_Str_length.all zofs = true := by decide +kernel
set_option maxRecDepth 20000 in
theorem zof_Str_charAt : zc_Str_charAt.all zofs = true := by decide +kernel
set_option maxRecDepth 20000 in
theorem zof_Str_indexOf : zc_Str_indexOf.all zofs = true := by decide +kernel
set_option maxRecDepth 20000 in
theorem zof_Str_indexOf2 : zc_Str_indexOf2.all zofs = true := by decide +kernel
set_option maxRecDepth 20000 in
theorem zof_Str_coder : zc_Str_coder.all zofs = true := by decide +kernel
set_option maxRecDepth 20000 in
theorem zof_Str_isLatin1 : zc_Str_isLatin1.all zofs = true := by decide +kernel
set_option maxRecDepth 20000 in
theorem zof_Str_checkIndex : zc_Str_checkIndex.all zofs = true := by decide +kernel
set_option maxRecDepth 20000 in
theorem zof_Lat_charAt : zc_Lat_charAt.all zofs = true := by decide +kernel
set_option maxRecDepth 20000 in
theorem zof_Lat_canEncode : zc_Lat_canEncode.all zofs = true := by decide +kernel
set_option maxRecDepth 20000 in
theorem zof_Lat_indexOf : zc_Lat_indexOf.all zofs = true := by decide +kernel
set_option maxRecDepth 20000 in
theorem zof_Lat_indexOfChar : zc_Lat_indexOfChar.all zofs = true := by decide +kernel
set_option maxRecDepth 20000 in
theorem zof_Pre_checkIndex : zc_Pre_checkIndex.all zofs = true := by decide +kernel
set_option maxRecDepth 20000 in
theorem zof_law : zc_law.all zofs = true := by decide +kernel
theorem zofs_0 : ∀ e ∈ zmt_0, e.2.2.2.2.2.2.all zofs = true := List.forall_mem_cons.mpr ⟨zof_Acts_forget, List.forall_mem_cons.mpr ⟨zof_Acts_perform, List.forall_mem_cons.mpr ⟨zof_Acts_run, List.forall_mem_cons.mpr ⟨zof_Acts_bodyOf, List.forall_mem_cons.mpr ⟨zof_Acts_begin, List.forall_mem_cons.mpr ⟨zof_Garden_clear, List.forall_mem_cons.mpr ⟨zof_Garden_begin, List.forall_mem_cons.mpr ⟨zof_Garden_put, List.forall_mem_cons.mpr ⟨zof_Garden_test, List.forall_mem_cons.mpr ⟨zof_Garden_slowness, List.forall_mem_cons.mpr ⟨zof_Garden_stands, List.forall_mem_cons.mpr ⟨zof_Hearing_measure, List.forall_mem_cons.mpr ⟨zof_Hearing_spread, List.forall_mem_cons.mpr ⟨zof_Hearing_soonest, List.forall_mem_cons.mpr ⟨zof_Hearing_passOn, List.forall_mem_cons.mpr ⟨zof_Hearing_speak, fun _ h => absurd h List.not_mem_nil⟩⟩⟩⟩⟩⟩⟩⟩⟩⟩⟩⟩⟩⟩⟩⟩
theorem zofs_1 : ∀ e ∈ zmt_1, e.2.2.2.2.2.2.all zofs = true := List.forall_mem_cons.mpr ⟨zof_Hearing_wordAt, List.forall_mem_cons.mpr ⟨zof_Hedge_become, List.forall_mem_cons.mpr ⟨zof_Hedge_add, List.forall_mem_cons.mpr ⟨zof_Hedge_has, List.forall_mem_cons.mpr ⟨zof_Hedge_isDead, List.forall_mem_cons.mpr ⟨zof_Hedge_frost, List.forall_mem_cons.mpr ⟨zof_Hedge_lose, List.forall_mem_cons.mpr ⟨zof_Hedge_paceOf, List.forall_mem_cons.mpr ⟨zof_Hedge_takesOf, List.forall_mem_cons.mpr ⟨zof_Hedge_passedOn, List.forall_mem_cons.mpr ⟨zof_Hedge_clipped, List.forall_mem_cons.mpr ⟨zof_Hedge_judged, List.forall_mem_cons.mpr ⟨zof_Qu_say, List.forall_mem_cons.mpr ⟨zof_Qu_hearingOf, List.forall_mem_cons.mpr ⟨zof_Qu_hearersWithin, List.forall_mem_cons.mpr ⟨zof_Qu_hearersOfJust, fun _ h => absurd h List.not_mem_nil⟩⟩⟩⟩⟩⟩⟩⟩⟩⟩⟩⟩⟩⟩⟩⟩
theorem zofs_2 : ∀ e ∈ zmt_2, e.2.2.2.2.2.2.all zofs = true := List.forall_mem_cons.mpr ⟨zof_Qu_latest, List.forall_mem_cons.mpr ⟨zof_Qu_reaches, List.forall_mem_cons.mpr ⟨zof_Qu_fewestBetween, List.forall_mem_cons.mpr ⟨zof_Qu_eachNeededBetween, List.forall_mem_cons.mpr ⟨zof_Qu_comingBack, List.forall_mem_cons.mpr ⟨zof_Qu_hearersOfTheFirst, List.forall_mem_cons.mpr ⟨zof_Qu_soonestTouch, List.forall_mem_cons.mpr ⟨zof_Qu_hoursWithTouch, List.forall_mem_cons.mpr ⟨zof_Qu_bestListener, List.forall_mem_cons.mpr ⟨zof_Qu_unlikeHearings, List.forall_mem_cons.mpr ⟨zof_Qu_waysToHaveSaid, List.forall_mem_cons.mpr ⟨zof_Qu_isSeenInTime, List.forall_mem_cons.mpr ⟨zof_Qu_isSeenAsWords, List.forall_mem_cons.mpr ⟨zof_Qu_oddsBetween, List.forall_mem_cons.mpr ⟨zof_Qu_meanHours, List.forall_mem_cons.mpr ⟨zof_Qu_lowest, fun _ h => absurd h List.not_mem_nil⟩⟩⟩⟩⟩⟩⟩⟩⟩⟩⟩⟩⟩⟩⟩⟩
theorem zofs_3 : ∀ e ∈ zmt_3, e.2.2.2.2.2.2.all zofs = true := List.forall_mem_cons.mpr ⟨zof_Qu_hoursAfterThePlan, List.forall_mem_cons.mpr ⟨zof_Qu_firstWrongInTheBook, List.forall_mem_cons.mpr ⟨zof_Reader_add, List.forall_mem_cons.mpr ⟨zof_Reader_readInto, List.forall_mem_cons.mpr ⟨zof_Reader_isClause, List.forall_mem_cons.mpr ⟨zof_Reader_spelled, List.forall_mem_cons.mpr ⟨zof_Reader_isEither, List.forall_mem_cons.mpr ⟨zof_Reader_isBoth, List.forall_mem_cons.mpr ⟨zof_Reader_isPart, List.forall_mem_cons.mpr ⟨zof_Reader_isTest, List.forall_mem_cons.mpr ⟨zof_Reader_number, List.forall_mem_cons.mpr ⟨zof_Reader_skipsAll, List.forall_mem_cons.mpr ⟨zof_Reader_skips, List.forall_mem_cons.mpr ⟨zof_Reader_here, List.forall_mem_cons.mpr ⟨zof_Rows_become, List.forall_mem_cons.mpr ⟨zof_Rows_add, fun _ h => absurd h List.not_mem_nil⟩⟩⟩⟩⟩⟩⟩⟩⟩⟩⟩⟩⟩⟩⟩⟩
theorem zofs_4 : ∀ e ∈ zmt_4, e.2.2.2.2.2.2.all zofs = true := List.forall_mem_cons.mpr ⟨zof_Rows_empty, List.forall_mem_cons.mpr ⟨zof_Rows_cell, List.forall_mem_cons.mpr ⟨zof_Tape_become, List.forall_mem_cons.mpr ⟨zof_Tape_fitted, List.forall_mem_cons.mpr ⟨zof_Tape_spans, List.forall_mem_cons.mpr ⟨zof_Box_plant, List.forall_mem_cons.mpr ⟨zof_Box_of, List.forall_mem_cons.mpr ⟨zof_Box_says, List.forall_mem_cons.mpr ⟨zof_Box_touch, List.forall_mem_cons.mpr ⟨zof_Box_kill, List.forall_mem_cons.mpr ⟨zof_Box_row, List.forall_mem_cons.mpr ⟨zof_Box_feed, List.forall_mem_cons.mpr ⟨zof_Box_garden, List.forall_mem_cons.mpr ⟨zof_Box_told, List.forall_mem_cons.mpr ⟨zof_Box_pass, List.forall_mem_cons.mpr ⟨zof_Box_heard, fun _ h => absurd h List.not_mem_nil⟩⟩⟩⟩⟩⟩⟩⟩⟩⟩⟩⟩⟩⟩⟩⟩
theorem zofs_5 : ∀ e ∈ zmt_5, e.2.2.2.2.2.2.all zofs = true := List.forall_mem_cons.mpr ⟨zof_Box_by, List.forall_mem_cons.mpr ⟨zof_Box_right, List.forall_mem_cons.mpr ⟨zof_Box_last, List.forall_mem_cons.mpr ⟨zof_Box_cut, List.forall_mem_cons.mpr ⟨zof_Box_needed, List.forall_mem_cons.mpr ⟨zof_Box_round, List.forall_mem_cons.mpr ⟨zof_Box_meet, List.forall_mem_cons.mpr ⟨zof_Box_join, List.forall_mem_cons.mpr ⟨zof_Box_listen, List.forall_mem_cons.mpr ⟨zof_Box_see, List.forall_mem_cons.mpr ⟨zof_Box_who, List.forall_mem_cons.mpr ⟨zof_Box_odds, List.forall_mem_cons.mpr ⟨zof_Box_mean, List.forall_mem_cons.mpr ⟨zof_Box_plan, List.forall_mem_cons.mpr ⟨zof_Box_planned, List.forall_mem_cons.mpr ⟨zof_Box_book, fun _ h => absurd h List.not_mem_nil⟩⟩⟩⟩⟩⟩⟩⟩⟩⟩⟩⟩⟩⟩⟩⟩
theorem zofs_6 : ∀ e ∈ zmt_6, e.2.2.2.2.2.2.all zofs = true := List.forall_mem_cons.mpr ⟨zof_Box_looked, List.forall_mem_cons.mpr ⟨zof_Box_judge, List.forall_mem_cons.mpr ⟨zof_Box_image, List.forall_mem_cons.mpr ⟨zof_Box_undo, List.forall_mem_cons.mpr ⟨zof_Box_act, List.forall_mem_cons.mpr ⟨zof_Box_trace, List.forall_mem_cons.mpr ⟨zof_Box_taken, List.forall_mem_cons.mpr ⟨zof_Box_count, List.forall_mem_cons.mpr ⟨zof_Box_tape, List.forall_mem_cons.mpr ⟨zof_Box_item, List.forall_mem_cons.mpr ⟨zof_Box_read, List.forall_mem_cons.mpr ⟨zof_Box_shift, List.forall_mem_cons.mpr ⟨zof_Box_isWord, List.forall_mem_cons.mpr ⟨zof_Box_isTape, List.forall_mem_cons.mpr ⟨zof_Box_isUnder, List.forall_mem_cons.mpr ⟨zof_Box_bit, fun _ h => absurd h List.not_mem_nil⟩⟩⟩⟩⟩⟩⟩⟩⟩⟩⟩⟩⟩⟩⟩⟩
theorem zofs_7 : ∀ e ∈ zmt_7, e.2.2.2.2.2.2.all zofs = true := List.forall_mem_cons.mpr ⟨zof_Box_holds, List.forall_mem_cons.mpr ⟨zof_Box_with, List.forall_mem_cons.mpr ⟨zof_Mod_in, List.forall_mem_cons.mpr ⟨zof_Mod_has, List.forall_mem_cons.mpr ⟨zof_Mod_ones, List.forall_mem_cons.mpr ⟨zof_Mod_isPlant, List.forall_mem_cons.mpr ⟨zof_Mod_isWord, List.forall_mem_cons.mpr ⟨zof_Mod_plant, List.forall_mem_cons.mpr ⟨zof_Mod_touch, List.forall_mem_cons.mpr ⟨zof_Mod_kill, List.forall_mem_cons.mpr ⟨zof_Mod_row, List.forall_mem_cons.mpr ⟨zof_Mod_feed, List.forall_mem_cons.mpr ⟨zof_Mod_next, List.forall_mem_cons.mpr ⟨zof_Mod_takes, List.forall_mem_cons.mpr ⟨zof_Mod_takesWord, List.forall_mem_cons.mpr ⟨zof_Mod_isDigit, fun _ h => absurd h List.not_mem_nil⟩⟩⟩⟩⟩⟩⟩⟩⟩⟩⟩⟩⟩⟩⟩⟩
theorem zofs_8 : ∀ e ∈ zmt_8, e.2.2.2.2.2.2.all zofs = true := List.forall_mem_cons.mpr ⟨zof_Mod_takesNumber, List.forall_mem_cons.mpr ⟨zof_Mod_emits, List.forall_mem_cons.mpr ⟨zof_Mod_whole, List.forall_mem_cons.mpr ⟨zof_Mod_settle, List.forall_mem_cons.mpr ⟨zof_Mod_place, List.forall_mem_cons.mpr ⟨zof_Mod_takesTest, List.forall_mem_cons.mpr ⟨zof_Mod_takesE, List.forall_mem_cons.mpr ⟨zof_Mod_takesHead, List.forall_mem_cons.mpr ⟨zof_Mod_takesClause, List.forall_mem_cons.mpr ⟨zof_Mod_goesText, List.forall_mem_cons.mpr ⟨zof_Mod_garden, List.forall_mem_cons.mpr ⟨zof_Mod_begin, List.forall_mem_cons.mpr ⟨zof_Mod_behind, List.forall_mem_cons.mpr ⟨zof_Mod_lastOf, List.forall_mem_cons.mpr ⟨zof_Mod_frost, List.forall_mem_cons.mpr ⟨zof_Mod_lose, fun _ h => absurd h List.not_mem_nil⟩⟩⟩⟩⟩⟩⟩⟩⟩⟩⟩⟩⟩⟩⟩⟩
theorem zofs_9 : ∀ e ∈ zmt_9, e.2.2.2.2.2.2.all zofs = true := List.forall_mem_cons.mpr ⟨zof_Mod_factOf, List.forall_mem_cons.mpr ⟨zof_Mod_holds, List.forall_mem_cons.mpr ⟨zof_Mod_atLeastOne, List.forall_mem_cons.mpr ⟨zof_Mod_pace, List.forall_mem_cons.mpr ⟨zof_Mod_takesLong, List.forall_mem_cons.mpr ⟨zof_Mod_saysOf, List.forall_mem_cons.mpr ⟨zof_Mod_says, List.forall_mem_cons.mpr ⟨zof_Mod_of, List.forall_mem_cons.mpr ⟨zof_Mod_told, List.forall_mem_cons.mpr ⟨zof_Mod_pass, List.forall_mem_cons.mpr ⟨zof_Mod_clears, List.forall_mem_cons.mpr ⟨zof_Mod_saidTo, List.forall_mem_cons.mpr ⟨zof_Mod_nextOne, List.forall_mem_cons.mpr ⟨zof_Mod_passes, List.forall_mem_cons.mpr ⟨zof_Mod_spreads, List.forall_mem_cons.mpr ⟨zof_Mod_lay, fun _ h => absurd h List.not_mem_nil⟩⟩⟩⟩⟩⟩⟩⟩⟩⟩⟩⟩⟩⟩⟩⟩
theorem zofs_10 : ∀ e ∈ zmt_10, e.2.2.2.2.2.2.all zofs = true := List.forall_mem_cons.mpr ⟨zof_Mod_whenOf, List.forall_mem_cons.mpr ⟨zof_Mod_heard, List.forall_mem_cons.mpr ⟨zof_Mod_by, List.forall_mem_cons.mpr ⟨zof_Mod_right, List.forall_mem_cons.mpr ⟨zof_Mod_last, List.forall_mem_cons.mpr ⟨zof_Mod_isCutBy, List.forall_mem_cons.mpr ⟨zof_Mod_cut, List.forall_mem_cons.mpr ⟨zof_Mod_needed, List.forall_mem_cons.mpr ⟨zof_Mod_round, List.forall_mem_cons.mpr ⟨zof_Mod_meet, List.forall_mem_cons.mpr ⟨zof_Mod_join, List.forall_mem_cons.mpr ⟨zof_Mod_listen, List.forall_mem_cons.mpr ⟨zof_Mod_see, List.forall_mem_cons.mpr ⟨zof_Mod_who, List.forall_mem_cons.mpr ⟨zof_Mod_divisor, List.forall_mem_cons.mpr ⟨zof_Mod_lowest, fun _ h => absurd h List.not_mem_nil⟩⟩⟩⟩⟩⟩⟩⟩⟩⟩⟩⟩⟩⟩⟩⟩
theorem zofs_11 : ∀ e ∈ zmt_11, e.2.2.2.2.2.2.all zofs = true := List.forall_mem_cons.mpr ⟨zof_Mod_odds, List.forall_mem_cons.mpr ⟨zof_Mod_mean, List.forall_mem_cons.mpr ⟨zof_Mod_plan, List.forall_mem_cons.mpr ⟨zof_Mod_planned, List.forall_mem_cons.mpr ⟨zof_Mod_book, List.forall_mem_cons.mpr ⟨zof_Mod_looked, List.forall_mem_cons.mpr ⟨zof_Mod_judge, List.forall_mem_cons.mpr ⟨zof_Mod_image, List.forall_mem_cons.mpr ⟨zof_Mod_undo, List.forall_mem_cons.mpr ⟨zof_Mod_body, List.forall_mem_cons.mpr ⟨zof_Mod_plantHears, List.forall_mem_cons.mpr ⟨zof_Mod_hearsAct, List.forall_mem_cons.mpr ⟨zof_Mod_plantSays, List.forall_mem_cons.mpr ⟨zof_Mod_privetSays, List.forall_mem_cons.mpr ⟨zof_Mod_saysAct, List.forall_mem_cons.mpr ⟨zof_Mod_plantTells, fun _ h => absurd h List.not_mem_nil⟩⟩⟩⟩⟩⟩⟩⟩⟩⟩⟩⟩⟩⟩⟩⟩
theorem zofs_12 : ∀ e ∈ zmt_12, e.2.2.2.2.2.2.all zofs = true := List.forall_mem_cons.mpr ⟨zof_Mod_tellsAct, List.forall_mem_cons.mpr ⟨zof_Mod_act, List.forall_mem_cons.mpr ⟨zof_Mod_trace, List.forall_mem_cons.mpr ⟨zof_Mod_taken, List.forall_mem_cons.mpr ⟨zof_Mod_count, List.forall_mem_cons.mpr ⟨zof_Mod_isTape, List.forall_mem_cons.mpr ⟨zof_Mod_tape, List.forall_mem_cons.mpr ⟨zof_Mod_narrow, List.forall_mem_cons.mpr ⟨zof_Mod_item, List.forall_mem_cons.mpr ⟨zof_Mod_read, List.forall_mem_cons.mpr ⟨zof_Mod_shift, List.forall_mem_cons.mpr ⟨zof_Int_bitCount, List.forall_mem_cons.mpr ⟨zof_Str_length, List.forall_mem_cons.mpr ⟨zof_Str_charAt, List.forall_mem_cons.mpr ⟨zof_Str_indexOf, List.forall_mem_cons.mpr ⟨zof_Str_indexOf2, fun _ h => absurd h List.not_mem_nil⟩⟩⟩⟩⟩⟩⟩⟩⟩⟩⟩⟩⟩⟩⟩⟩
theorem zofs_13 : ∀ e ∈ zmt_13, e.2.2.2.2.2.2.all zofs = true := List.forall_mem_cons.mpr ⟨zof_Str_coder, List.forall_mem_cons.mpr ⟨zof_Str_isLatin1, List.forall_mem_cons.mpr ⟨zof_Str_checkIndex, List.forall_mem_cons.mpr ⟨zof_Lat_charAt, List.forall_mem_cons.mpr ⟨zof_Lat_canEncode, List.forall_mem_cons.mpr ⟨zof_Lat_indexOf, List.forall_mem_cons.mpr ⟨zof_Lat_indexOfChar, List.forall_mem_cons.mpr ⟨zof_Pre_checkIndex, fun _ h => absurd h List.not_mem_nil⟩⟩⟩⟩⟩⟩⟩⟩
theorem zrow_of {i : Nat} {y : MethodName} {b : ByteArray} {ml own : Nat} {ret : Option FieldType} {st : Bool} {cd : List (Nat × Instr)} (h : zmt i = some (y, b, ml, ret, own, st, cd)) : cd.all zofs = true := by
  obtain ⟨k, hk, hr⟩ := zmt_some h
  rcases hr with ⟨-, hr⟩ | ⟨-, hr⟩ | ⟨-, hr⟩ | ⟨-, hr⟩ | ⟨-, hr⟩ | ⟨-, hr⟩ | ⟨-, hr⟩ | ⟨-, hr⟩ | ⟨-, hr⟩ | ⟨-, hr⟩ | ⟨-, hr⟩ | ⟨-, hr⟩ | ⟨-, hr⟩ | ⟨-, hr⟩
  · exact zofs_0 _ hr
  · exact zofs_1 _ hr
  · exact zofs_2 _ hr
  · exact zofs_3 _ hr
  · exact zofs_4 _ hr
  · exact zofs_5 _ hr
  · exact zofs_6 _ hr
  · exact zofs_7 _ hr
  · exact zofs_8 _ hr
  · exact zofs_9 _ hr
  · exact zofs_10 _ hr
  · exact zofs_11 _ hr
  · exact zofs_12 _ hr
  · exact zofs_13 _ hr
def zlok (o : Nat) (e : Nat × Value) (w : Nat) : Bool := match e.2 with
  | .int q => zhas w (.constant (zcn o) e.1 q)
  | .long q => zhas w (.constantLong (zcn o) e.1 q)
  | .ref q => Nat.blt 3 q && Nat.blt q 11
  | _ => false
def zlw_0 : List Nat := []
set_option maxRecDepth 100000 in
theorem zlok_0 : (zlt_0.zip zlw_0).all (fun e => zlok 0 e.1 e.2) = true := by decide +kernel
def zlw_1 : List Nat := []
set_option maxRecDepth 100000 in
theorem zlok_1 : (zlt_1.zip zlw_1).all (fun e => zlok 1 e.1 e.2) = true := by decide +kernel
def zlw_2 : List Nat := []
set_option maxRecDepth 100000 in
theorem zlok_2 : (zlt_2.zip zlw_2).all (fun e => zlok 2 e.1 e.2) = true := by decide +kernel
def zlw_3 : List Nat := [0]
set_option maxRecDepth 100000 in
theorem zlok_3 : (zlt_3.zip zlw_3).all (fun e => zlok 3 e.1 e.2) = true := by decide +kernel
def zlw_4 : List Nat := [840]
set_option maxRecDepth 100000 in
theorem zlok_4 : (zlt_4.zip zlw_4).all (fun e => zlok 4 e.1 e.2) = true := by decide +kernel
def zlw_5 : List Nat := [0, 0, 0, 0, 0, 0, 0]
set_option maxRecDepth 100000 in
theorem zlok_5 : (zlt_5.zip zlw_5).all (fun e => zlok 5 e.1 e.2) = true := by decide +kernel
def zlw_6 : List Nat := []
set_option maxRecDepth 100000 in
theorem zlok_6 : (zlt_6.zip zlw_6).all (fun e => zlok 6 e.1 e.2) = true := by decide +kernel
def zlw_7 : List Nat := []
set_option maxRecDepth 100000 in
theorem zlok_7 : (zlt_7.zip zlw_7).all (fun e => zlok 7 e.1 e.2) = true := by decide +kernel
def zlw_8 : List Nat := [831]
set_option maxRecDepth 100000 in
theorem zlok_8 : (zlt_8.zip zlw_8).all (fun e => zlok 8 e.1 e.2) = true := by decide +kernel
def zlw_9 : List Nat := [1428]
set_option maxRecDepth 100000 in
theorem zlok_9 : (zlt_9.zip zlw_9).all (fun e => zlok 9 e.1 e.2) = true := by decide +kernel
def zlw_10 : List Nat := []
set_option maxRecDepth 100000 in
theorem zlok_10 : (zlt_10.zip zlw_10).all (fun e => zlok 10 e.1 e.2) = true := by decide +kernel
def zlw_11 : List Nat := []
set_option maxRecDepth 100000 in
theorem zlok_11 : (zlt_11.zip zlw_11).all (fun e => zlok 11 e.1 e.2) = true := by decide +kernel
def zlw_12 : List Nat := []
set_option maxRecDepth 100000 in
theorem zlok_12 : (zlt_12.zip zlw_12).all (fun e => zlok 12 e.1 e.2) = true := by decide +kernel
def zlw_13 : List Nat := [411, 412, 413]
set_option maxRecDepth 100000 in
theorem zlok_13 : (zlt_13.zip zlw_13).all (fun e => zlok 13 e.1 e.2) = true := by decide +kernel
def zlw_14 : List Nat := []
set_option maxRecDepth 100000 in
theorem zlok_14 : (zlt_14.zip zlw_14).all (fun e => zlok 14 e.1 e.2) = true := by decide +kernel
def zlw_15 : List Nat := [1541]
set_option maxRecDepth 100000 in
theorem zlok_15 : (zlt_15.zip zlw_15).all (fun e => zlok 15 e.1 e.2) = true := by decide +kernel
theorem zlall {o : Nat} (ho : o < 16) : ∀ e ∈ zlt o, ∃ w, zlok o e w = true := by
  match o, ho with
  | 0, _ => exact zall_of zlok_0 rfl
  | 1, _ => exact zall_of zlok_1 rfl
  | 2, _ => exact zall_of zlok_2 rfl
  | 3, _ => exact zall_of zlok_3 rfl
  | 4, _ => exact zall_of zlok_4 rfl
  | 5, _ => exact zall_of zlok_5 rfl
  | 6, _ => exact zall_of zlok_6 rfl
  | 7, _ => exact zall_of zlok_7 rfl
  | 8, _ => exact zall_of zlok_8 rfl
  | 9, _ => exact zall_of zlok_9 rfl
  | 10, _ => exact zall_of zlok_10 rfl
  | 11, _ => exact zall_of zlok_11 rfl
  | 12, _ => exact zall_of zlok_12 rfl
  | 13, _ => exact zall_of zlok_13 rfl
  | 14, _ => exact zall_of zlok_14 rfl
  | 15, _ => exact zall_of zlok_15 rfl
  | n + 16, h => exact absurd h (by omega)
theorem zgl_0 : Cond.fieldLink "BoxHedge$Acts" 51 "BoxHedge$Acts" "BODIES" "[I" ∈ zgood := zhas_in (i := 913) (by decide +kernel)
theorem zgl_1 : Cond.fieldLink "BoxHedge" 264 "BoxHedge" "ABOVE" "[I" ∈ zgood := zhas_in (i := 932) (by decide +kernel)
theorem zgl_2 : Cond.fieldLink "java/lang/String" 38 "java/lang/String" "COMPACT_STRINGS" "Z" ∈ zgood := zhas_in (i := 135) (by decide +kernel)
theorem zgl_3 : Cond.fieldLink "java/lang/String" 1053 "jdk/internal/util/Preconditions" "SIOOBE_FORMATTER" "Ljava/util/function/BiFunction;" ∈ zgood := zhas_in (i := 541) (by decide +kernel)
section ZB
variable {p : Program} {l : Launch} {e : Env} {R : Room} {s : State} {m : MethodId} {args : Array Value} {below : List Frame} {meth : Method} {c : Code} {cells slots : Nat} {TQ : State → Prop}
variable {own ml : Nat} {b : ByteArray} {cd : List (Nat × Instr)} {base : Nat} {ad : Nat → Nat} {w : Value} {tb : Nat → Nat → Int32} {D : va_G} {cA : Nat → ClassId} {d : Nat}
variable {pc : Nat} {ls st : List Value} {mm : zM} {Q : zQ} {K : zK} {H : Heap} {locs : List Loc} {la : Array Slot}
theorem zI32 {a : Int} (h : zi32 a = true) : (Int32.ofInt a).toInt = a := by
  unfold zi32 at h
  rw [Bool.and_eq_true, decide_eq_true_eq, decide_eq_true_eq] at h
  exact Int32.toInt_ofInt_of_le h.1 (by omega)
theorem zpr_off {dd v : Int} : ∀ (a : Int) (l : List Int), Op.lookupswitch.offset (zpr a l) dd v = if h : a ≤ v ∧ v < a + l.length then l[(v - a).toNat]'(by omega) else dd
  | a, [] => by
    rw [dif_neg (by simp)]
    rfl
  | a, o :: l => by
    show Op.lookupswitch.offset ((a, o) :: zpr (a + 1) l) dd v = _
    rw [Op.lookupswitch.offset_cons, zpr_off (a + 1) l]
    by_cases h : a = v
    · subst h
      rw [if_pos rfl, dif_pos ⟨Int.le_refl _, by simp; omega⟩]
      simp
    · rw [if_neg h]
      by_cases h2 : a + 1 ≤ v ∧ v < a + 1 + l.length
      · rw [dif_pos h2, dif_pos ⟨by omega, by simp; omega⟩]
        have e : (v - a).toNat = (v - (a + 1)).toNat + 1 := by omega
        simp only [e, List.getElem_cons_succ]
      · rw [dif_neg h2, dif_neg (by simp; omega)]
theorem zpr_all {f : Int × Int → Bool} : ∀ (a : Int) (l : List Int), (∀ (j : Nat) (o : Int), l[j]? = some o → f (a + j, o) = true) → (zpr a l).all f = true
  | _, [], _ => rfl
  | a, o :: l, h => by
    show ((a, o) :: zpr (a + 1) l).all f = true
    rw [List.all_cons, Bool.and_eq_true]
    refine ⟨by simpa using h 0 o rfl, zpr_all (a + 1) l fun j o2 h2 => ?_⟩
    have := h (j + 1) o2 h2
    rw [show a + 1 + (j : Int) = a + ((j + 1 : Nat) : Int) by push_cast; omega]
    exact this
theorem zlk_get {x : Int32} {dd : Int} {r : List Value} : ∀ (l : List (Int × Int)), (l.all fun q => decide (0 ≤ (pc : Int) + q.2) && zi32 q.1) = true → 0 ≤ (pc : Int) + dd → zlk pc x dd ls r mm K l → ∃ o, Op.lookupswitch.offset l dd x.toInt = o ∧ K (ztg pc o) ls r mm ∧ 0 ≤ (pc : Int) + o
  | [], _, hd, h => ⟨dd, rfl, h, hd⟩
  | (a, o) :: l, hl, hd, h => by
    rw [List.all_cons, Bool.and_eq_true, Bool.and_eq_true, decide_eq_true_eq] at hl
    rw [Op.lookupswitch.offset_cons]
    have e1 := zI32 hl.1.2
    by_cases hx : x = Int32.ofInt a
    · rw [if_pos (by rw [hx]; exact e1.symm)]
      exact ⟨o, rfl, by
        unfold zlk at h
        rw [if_pos hx] at h
        exact h, hl.1.1⟩
    · rw [if_neg (fun z => hx (Int32.toInt_inj.mp (by rw [e1]; exact z.symm)))]
      exact zlk_get l hl.2 hd (by
        unfold zlk at h
        rw [if_neg hx] at h
        exact h)
theorem zts_ok (hx : p.tables.exec = Jvm.exec) (hb : c.code = b) (S : zSim s base ad w tb D cA ml ls mm la H locs) (G : zGo p l e R s m args below meth c cells slots TQ ml base ad w tb D cA K) {dd lo hi : Int} {os : Array Int} {n : Nat} (hof : zofs (pc, .tableswitch dd lo hi os) = true) (hdg : decode b pc = .ok (.tableswitch dd lo hi os, n))
    (h : zi1 st fun x r => zlk pc x dd ls r mm K (zpr lo os.toList)) : W p l e R s m args below meth c H locs cells slots TQ (F0 m pc la (st.map (zcv ad w))) := by
  obtain ⟨x, r, rfl, h1⟩ := zi1_ok h
  unfold zofs at hof
  simp only [Bool.and_eq_true, decide_eq_true_eq] at hof
  obtain ⟨⟨⟨⟨⟨o1, o2⟩, o3⟩, o4⟩, o5⟩, o6⟩ := hof
  unfold zi32 at o3 o4
  rw [Bool.and_eq_true, decide_eq_true_eq, decide_eq_true_eq] at o3 o4
  obtain ⟨o, e1, e2, e3⟩ := zlk_get (pc := pc) (x := x) (zpr lo os.toList) (zpr_all lo _ fun j o hj => by
    have hl := (List.getElem?_eq_some_iff.mp hj).1
    have hno := List.all_eq_true.mp o2 _ (List.mem_of_getElem? hj)
    unfold zi32
    rw [decide_eq_true_eq] at hno
    rw [Bool.and_eq_true, Bool.and_eq_true, decide_eq_true_eq, decide_eq_true_eq, decide_eq_true_eq]
    exact ⟨hno, by omega, by omega⟩) o1 h1
  rw [zpr_off] at e1
  by_cases hr : lo ≤ x.toInt ∧ x.toInt < lo + os.toList.length
  · rw [dif_pos hr] at e1
    have hj : (x.toInt - lo).toNat < os.toList.length := by omega
    have hjo : os[(x.toInt - lo).toNat]? = some o := by
      rw [← Array.getElem?_toList, List.getElem?_eq_getElem hj, e1]
    exact lv_tableIn hx hb hdg (by omega) (by omega) hjo (ztg_ok pc o e3) (G _ _ _ _ _ _ _ e2 S)
  · rw [dif_neg hr] at e1
    subst e1
    exact lv_tableOut hx hb hdg (by omega) (ztg_ok pc _ e3) (G _ _ _ _ _ _ _ e2 S)
theorem zls_ok (hx : p.tables.exec = Jvm.exec) (hb : c.code = b) (S : zSim s base ad w tb D cA ml ls mm la H locs) (G : zGo p l e R s m args below meth c cells slots TQ ml base ad w tb D cA K) {dd : Int} {ps : Array (Int × Int)} {n : Nat} (hof : zofs (pc, .lookupswitch dd ps) = true) (hdg : decode b pc = .ok (.lookupswitch dd ps, n))
    (h : zi1 st fun x r => zlk pc x dd ls r mm K ps.toList) : W p l e R s m args below meth c H locs cells slots TQ (F0 m pc la (st.map (zcv ad w))) := by
  obtain ⟨x, r, rfl, h1⟩ := zi1_ok h
  unfold zofs at hof
  rw [Bool.and_eq_true, Bool.and_eq_true, decide_eq_true_eq] at hof
  obtain ⟨⟨o1, o2⟩, o3⟩ := hof
  obtain ⟨o, e1, e2, e3⟩ := zlk_get (pc := pc) (x := x) ps.toList o2 o1 h1
  exact lv_lookup hx hb hdg o3 e1 (ztg_ok pc o e3) (G _ _ _ _ _ _ _ e2 S)
theorem zgs_ok (X : zCx p l R s m args c cells slots own ml b cd base ad w tb D cA d) (S : zSim s base ad w tb D cA ml ls mm la H locs) (G : zGo p l e R s m args below meth c cells slots TQ ml base ad w tb D cA K) {idx : Nat} {v : Value} (hdg : decode b pc = .ok (.getstatic idx, 3)) (hv : zlv (zgt own) idx = some v)
    (h : K (pc + 3) ls (v :: st) mm) : W p l e R s m args below meth c H locs cells slots TQ (F0 m pc la (st.map (zcv ad w))) := by
  obtain ⟨⟨hx, hb, hml, hown, ho⟩, hts, hK, hSt, hAd, hbs, hdk, hTb, hw, hRm, hC⟩ := X
  obtain ⟨-, -, ⟨z1, z2, z3, z4⟩, -, -, n2⟩ := hSt
  have sS := S.2.2.2.1
  have g := G _ _ _ _ _ _ _ h S
  rw [List.map_cons] at g
  have hm := zlv_mem hv
  match own, ho, hm with
  | 0, _, hm =>
    rcases List.mem_cons.mp hm with e | hm
    · cases e
      exact va_gets (ref := "BoxHedge$Acts") hx hb z1 sS hown (hts _ zgl_0) (fun _ h9 => h9) hdg g
    · rcases List.mem_cons.mp hm with e | hm
      · cases e
        exact va_getsN (ref := "BoxHedge") (host := "BoxHedge") hx hb z2 sS hown (va_Nw.use rfl n2) (fun _ h9 => h9) hdg g
      · cases hm
  | 8, _, hm =>
    rcases List.mem_cons.mp hm with e | hm
    · cases e
      exact va_gets (ref := "BoxHedge") hx hb z2 sS hown (hts _ zgl_1) (fun _ h9 => h9) hdg g
    · cases hm
  | 10, _, hm =>
    rcases List.mem_cons.mp hm with e | hm
    · cases e
      exact va_gets (ref := "java/lang/String") hx hb z3 sS hown (hts _ zgl_2) (fun _ h9 => h9) hdg g
    · rcases List.mem_cons.mp hm with e | hm
      · cases e
        exact va_gets (ref := "jdk/internal/util/Preconditions") hx hb z4 sS hown (hts _ zgl_3) (fun _ h9 => h9) hdg g
      · cases hm
  | 1, _, hm => cases hm
  | 2, _, hm => cases hm
  | 3, _, hm => cases hm
  | 4, _, hm => cases hm
  | 5, _, hm => cases hm
  | 6, _, hm => cases hm
  | 7, _, hm => cases hm
  | 9, _, hm => cases hm
  | 11, _, hm => cases hm
  | 12, _, hm => cases hm
  | 13, _, hm => cases hm
  | 14, _, hm => cases hm
  | 15, _, hm => cases hm
theorem zrv_eq : ∀ (l a : List Value), zrv l a = l.reverse ++ a
  | [], a => rfl
  | v :: l, a => by
    show zrv l (v :: a) = _
    rw [zrv_eq l (v :: a), List.reverse_cons, List.append_assoc]
    rfl
theorem ztk_len : ∀ (n : Nat) (l : List Value), n ≤ zsz l → (ztk n l).length = n
  | 0, _, _ => rfl
  | n + 1, [], h => absurd h (Nat.not_succ_le_zero n)
  | n + 1, v :: l, h => congrArg (· + 1) (ztk_len n l (Nat.le_of_succ_le_succ h))
theorem ztk_dr : ∀ (n : Nat) (l : List Value), ztk n l ++ zdr n l = l
  | 0, _ => rfl
  | _ + 1, [] => rfl
  | n + 1, v :: l => congrArg (v :: ·) (ztk_dr n l)
theorem zgoodIn (ws : List Cond) (h : ∀ w ∈ ws, w ∈ zgood) : GoodIn zgood ws := fun w hw => ⟨h w hw, good_of_word (zgood_good (h w hw))⟩
theorem zcallK {st0 rest : List Value} {aa : Array Value} {Q1 : zQ} (hr : va_Run p l e R s m args below meth c H locs cells slots 0 0 (F0 m pc la st0) rest (zQc base ad w tb D cA Q1 aa) (zA base)) (hS : va_S (zA base) s.heap H locs)
    (kk : ∀ o m', Q1 o m' → ∀ H1 locs1, zWo D cA ad m' H1 → va_S (zA base) s.heap H1 locs1 → zLw tb m' → W p l e R s m args below meth c H1 locs1 cells slots TQ (F0 m (pc + 3) la ((o.map (zcv ad w)).toList ++ rest))) : W p l e R s m args below meth c H locs cells slots TQ (F0 m pc la st0) := by
  intro T hT X
  obtain ⟨v, st₀, t, T', L, h0, X', hL, e1, e2, ⟨o, m', hq, hv, hw, ⟨hz, hk⟩, hlw⟩, stp⟩ := hr T hT X
  cases hv
  rw [h0] at hz hk
  obtain ⟨t2, a1, b1⟩ := kk o m' hq T'.heap (locs ++ L) (by rw [e1]; exact hw) ⟨Nat.le_trans hS.1 (by rw [e1]; exact hz), fun q h1 h2 => by rw [e1, hk q (Nat.lt_of_lt_of_le h1 hS.1) h2]; exact hS.2.1 q h1 h2, fun q hq => by
      rcases List.mem_append.mp hq with h | h
      · exact hS.2.2 q h
      · exact hL q h⟩ hlw T' rfl X'
  exact ⟨t2, stp t2 a1, b1⟩
theorem zfin {rk n : Nat} (hw : zWv w) (S : zSim s base ad w tb D cA ml ls mm la H locs) (G : zGo p l e R s m args below meth c cells slots TQ ml base ad w tb D cA K) (hrk : rk = 0 ∨ rk = 1 ∨ rk = 2 ∨ rk = 3) :
    ∀ o m', zrt rk o (fun vs => K (pc + 3) ls (vs ++ zdr n st) m') → ∀ H1 locs1, zWo D cA ad m' H1 → va_S (zA base) s.heap H1 locs1 → zLw tb m' → W p l e R s m args below meth c H1 locs1 cells slots TQ (F0 m (pc + 3) la ((o.map (zcv ad w)).toList ++ (zdr n st).map (zcv ad w))) := by
  intro o m' h H1 locs1 h1 h2 h3
  have S' : zSim s base ad w tb D cA ml ls m' la H1 locs1 := ⟨S.1, S.2.1, h1, h2, h3⟩
  rcases hrk with rfl | rfl | rfl | rfl
  · obtain ⟨rfl, h⟩ := h
    exact G _ _ _ _ _ _ _ h S'
  · obtain ⟨x, rfl, h⟩ := h
    exact G _ _ _ _ _ _ _ h S'
  · obtain ⟨x, rfl, h⟩ := h
    exact G _ _ _ _ _ _ _ h S'
  · obtain ⟨x, rfl, h⟩ := h
    exact G _ _ _ _ _ _ _ h S'
theorem zpre {as : List Value} (hK : va_K D vwCl (ztys cA) s) (hSt : zSt base ad w tb s s.heap) (hbs : base ≤ s.heap.size) (S : zSim s base ad w tb D cA ml ls mm la H locs) : ∀ U : State, U.heap = H → s.WarmedH U.vm → zPc base ad w tb D cA as mm (as.map (zcv ad w)).toArray U := by
  intro U hU hW
  obtain ⟨-, -, sP, sS, sW⟩ := S
  exact ⟨rfl, by rw [hU]; exact sP, va_K.moved hW.alike hK, hSt.warm hW (by rw [hU]; exact sS.2.1), by rw [hU]; exact Nat.le_trans hbs sS.1, sW⟩
theorem zinv_ok (X : zCx p l R s m args c cells slots own ml b cd base ad w tb D cA d) (S : zSim s base ad w tb D cA ml ls mm la H locs) (G : zGo p l e R s m args below meth c cells slots TQ ml base ad w tb D cA K) {idx : Nat} {virt : Bool} (hdg : decode b pc = .ok (if virt then .invokevirtual idx else .invokestatic idx, 3))
    (h : zinv (zCall d) own virt idx pc ls st mm K) : W p l e R s m args below meth c H locs cells slots TQ (F0 m pc la (st.map (zcv ad w))) := by
  obtain ⟨⟨hx, hb, hml, hown, ho⟩, hts, hK, hSt, hAd, hbs, hdk, hTb, hw, ⟨hR1, hR2, hR3, hR4⟩, hC⟩ := X
  obtain ⟨sl, sz, sP, sS, sW⟩ := id S
  have hls : la.size = ml := by rw [sl.1]; exact sz
  unfold zinv at h
  cases hf : zl5 (zct own) idx with
  | none => rw [hf] at h; exact h.elim
  | some t =>
    obtain ⟨kind, mi, n, rk⟩ := t
    rw [hf] at h
    obtain ⟨⟨w1, w2, w3, w4⟩, hok⟩ := zcall_ok ho hf
    unfold zcok at hok
    dsimp only at h hok
    have mhd : ∀ {y : MethodName} {bb : ByteArray} {mll ow : Nat} {ret : Option FieldType} {stt : Bool} {cdd : List (Nat × Instr)}, zmt mi = some (y, bb, mll, ret, ow, stt, cdd) → 8 + (mll + 11) + (zrm d).locals ≤ R.locals := by
      intro y bb mll ow ret stt cdd hr
      have := (zrow hr).2.2.2.2.2.2.2
      show 8 + (mll + 11) + 200 * d ≤ R.locals
      omega
    have gin : ∀ {y : MethodName} {bb : ByteArray} {mll ow : Nat} {ret : Option FieldType} {stt : Bool} {cdd : List (Nat × Instr)}, zmt mi = some (y, bb, mll, ret, ow, stt, cdd) → ∀ x ∈ (Cond.code y bb mll ret :: zgood), x ∈ zgood := by
      intro y bb mll ow ret stt cdd hr x hx
      rcases List.mem_cons.mp hx with rfl | hx
      · exact (zrow hr).1
      · exact hx
    have stk : n ≤ zsz st → ((zrv (ztk n st) []).map (zcv ad w)).reverse ++ (zdr n st).map (zcv ad w) = st.map (zcv ad w) := by
      intro _
      rw [zrv_eq, List.append_nil, List.map_reverse, List.reverse_reverse, ← List.map_append, ztk_dr]
    have len : n ≤ zsz st → ((zrv (ztk n st) []).map (zcv ad w)).length = n := by
      intro hn
      rw [List.length_map, zrv_eq, List.append_nil, List.length_reverse, ztk_len n st hn]
    split at h
    · -- virtual
      rw [if_neg (by decide), if_neg (by decide), if_neg (by decide)] at hok
      cases hr : zmt mi with
      | none => rw [hr] at hok; cases hok
      | some row =>
        obtain ⟨y, bb, mll, ret, ow, stt, cdd⟩ := row
        rw [hr] at hok
        simp only [Bool.and_eq_true, decide_eq_true_eq, if_true] at hok
        obtain ⟨⟨⟨k1, k2⟩, k3⟩, k4, k5⟩ := hok
        have hst : stt = false := by simpa using k4
        subst hst
        cases hc0 : zrc mi (zrv (ztk n st) []) && (Nat.ble (zcat (zdr n st)) 8 && Nat.ble n (zsz st)) with
        | false => rw [hc0] at h; exact h.elim
        | true =>
          rw [hc0] at h
          rw [Bool.and_eq_true, Bool.and_eq_true] at hc0
          obtain ⟨c1, c2, c3⟩ := hc0
          have c2 := Nat.le_of_ble_eq_true c2
          have c3 := Nat.le_of_ble_eq_true c3
          obtain ⟨z1, z2, z3, z4, z5, z6, z7, z8⟩ := zrow hr
          have hM := hC mi y bb mll ret ow false cdd hr _ _ _ h
          have hrk : rk = 0 ∨ rk = 1 ∨ rk = 2 ∨ rk = 3 := k1 ▸ (zrow_own hr).2
          cases ha : zrv (ztk n st) [] with
          | nil => rw [ha] at c1; cases c1
          | cons v0 as =>
            rw [ha] at c1 hM
            match v0, c1 with
            | .ref q, c1 =>
              have e1 : zsh q = bif Nat.beq ow 10 then 50 else ow := by
                unfold zrc at c1
                rw [hr] at c1
                exact Nat.eq_of_beq_eq_true c1
              have hq18 : q ≠ 18 := zsh_ne (by
                rw [e1]
                have := (zrow_own hr).1
                cases h10 : Nat.beq ow 10 with
                | true => rw [cond_true]; decide
                | false => rw [cond_false]; omega)
              have hrecv : ∃ cellB : Cell, H[ad q]? = some cellB ∧ cellB.vm.isStatics = false ∧ s.vm.findClass y.cls = some cellB.cls := by
                cases h10 : Nat.beq ow 10 with
                | true =>
                  rw [h10, cond_true] at e1
                  have h10 := Nat.eq_of_beq_eq_true h10
                  subst h10
                  have hqs : ∃ i : Nat, i < 7 ∧ q = 4 + i := by
                    have h2 : ∀ q : Nat, q < 161 → zsh q = 50 → ∃ i : Nat, i < 7 ∧ q = 4 + i := by decide +kernel
                    exact h2 q (Nat.lt_of_not_le fun z => by rw [zsh_hi z] at e1; cases e1) e1
                  obtain ⟨i, hi, rfl⟩ := hqs
                  rw [z6]
                  exact vk_recv (i := i) hSt.2.1 hi sS
                | false =>
                  rw [h10, cond_false] at e1
                  have hol := (zrow_own hr).1
                  have hpl : zpl q := zpl_of (by omega)
                  have how : ow < 10 := by
                    have h2 : ∀ q : Nat, q < 161 → zsh q < 16 → zsh q < 10 := by decide +kernel
                    have := h2 q hpl.2 (by omega)
                    omega
                  have hcl : ∃ r, vwCl[ow]? = some r := by
                    have h3 : ow < vwCl.length := how
                    exact ⟨_, List.getElem?_eq_getElem h3⟩
                  obtain ⟨r, hcl⟩ := hcl
                  have he : (zws cA ad mm)[q - 20]? = some (ad q, .inr (ow, zfv ad mm q 0 (zfk ow))) := by rw [zws_get hpl, zen_obj e1 how]
                  have := va_recv hK sP hcl he
                  rw [(zvw hcl).2.2.2.2] at this
                  rw [z6]
                  exact this
              have hlen := len c3
              have hstk := stk c3
              rw [ha, List.map_cons, zcv_ne hq18] at hlen hstk
              have hpc := zpre (as := (.ref q :: as)) hK hSt hbs S
              rw [List.map_cons, zcv_ne hq18] at hpc
              refine zcallK (rest := (zdr n st).map (zcv ad w)) (va_runV (C := y.cls) (b := ad q) (As := as.map (zcv ad w)) (Ts := zgood) (own := zcn own) (index := idx) ⟨hx, hb, hml, hown, hts⟩ hM
                (cwV (n - 1) hts (zgoodIn _ (fun x hx => ?_)) rfl rfl rfl ⟨rfl, z7.1, z7.2, by simpa using k2⟩ ⟨hR1, mhd hr⟩) ⟨zblind, hrecv, hpc⟩ rfl ?_ hls ?_ ?_ hdg ⟨hR3, hR4⟩) sS (zfin hw S G hrk)
              · rcases List.mem_append.mp hx with hx | hx
                · simp only [List.mem_cons, List.not_mem_nil, or_false] at hx
                  rcases hx with rfl | rfl | rfl | rfl
                  · exact zhas_in k5
                  · exact (z4 rfl).1
                  · exact (z4 rfl).2
                  · exact z2
                · exact gin hr x hx
              · rw [List.length_cons] at hlen
                omega
              · rw [← hstk, List.reverse_cons, List.append_assoc]
                rfl
              · exact lv_room (by rw [zcv_sum hw]; exact c2)
    · -- static
      rw [if_neg (by decide), if_neg (by decide), if_neg (by decide)] at hok
      cases hr : zmt mi with
      | none => rw [hr] at hok; cases hok
      | some row =>
        obtain ⟨y, bb, mll, ret, ow, stt, cdd⟩ := row
        rw [hr] at hok
        simp only [Bool.and_eq_true, decide_eq_true_eq, if_true, if_neg (show ¬ (1 : Nat) = 0 by decide)] at hok
        obtain ⟨⟨⟨k1, k2⟩, k3⟩, k4, k5⟩ := hok
        subst k4
        cases hc0 : Nat.ble (zcat (zdr n st)) 8 && Nat.ble n (zsz st) with
        | false => rw [hc0] at h; exact h.elim
        | true =>
          rw [hc0] at h
          rw [Bool.and_eq_true] at hc0
          obtain ⟨c2, c3⟩ := hc0
          have c2 := Nat.le_of_ble_eq_true c2
          have c3 := Nat.le_of_ble_eq_true c3
          obtain ⟨z1, z2, z3, z4, z5, z6, z7, z8⟩ := zrow hr
          have hM := hC mi y bb mll ret ow true cdd hr _ _ _ h
          have hrk : rk = 0 ∨ rk = 1 ∨ rk = 2 ∨ rk = 3 := k1 ▸ (zrow_own hr).2
          refine zcallK (rest := (zdr n st).map (zcv ad w)) (va_runS (As := (zrv (ztk n st) []).map (zcv ad w)) (Ts := zgood) (own := zcn own) (index := idx) ⟨hx, hb, hml, hown, hts⟩ hM
            (va_cwS n hts (zgoodIn _ (fun x hx => ?_)) rfl rfl rfl ⟨z7.1, z7.2, by simpa using k2⟩ ⟨hR1, mhd hr⟩) ⟨zblind, zpre hK hSt hbs S⟩ rfl (len c3) hls (stk c3).symm ?_ hdg ⟨hR3, hR4⟩) sS (zfin hw S G hrk)
          · rcases List.mem_append.mp hx with hx | hx
            · simp only [List.mem_cons, List.not_mem_nil, or_false] at hx
              rcases hx with rfl | rfl | rfl
              · exact zhas_in k5
              · exact z3 rfl
              · exact z2
            · exact gin hr x hx
          · exact lv_room (by rw [zcv_sum hw]; exact c2)
    · -- a nest mate's static
      rw [if_neg (by decide), if_neg (by decide), if_neg (by decide)] at hok
      cases hr : zmt mi with
      | none => rw [hr] at hok; cases hok
      | some row =>
        obtain ⟨y, bb, mll, ret, ow, stt, cdd⟩ := row
        rw [hr] at hok
        simp only [Bool.and_eq_true, decide_eq_true_eq, if_neg (show ¬ (2 : Nat) = 0 by decide), if_neg (show ¬ (2 : Nat) = 1 by decide)] at hok
        obtain ⟨⟨⟨k1, k2⟩, k3⟩, ⟨-, k4⟩, k5⟩ := hok
        subst k4
        cases hc0 : Nat.ble (zcat (zdr n st)) 8 && Nat.ble n (zsz st) with
        | false => rw [hc0] at h; exact h.elim
        | true =>
          rw [hc0] at h
          rw [Bool.and_eq_true] at hc0
          obtain ⟨c2, c3⟩ := hc0
          have c2 := Nat.le_of_ble_eq_true c2
          have c3 := Nat.le_of_ble_eq_true c3
          obtain ⟨z1, z2, z3, z4, z5, z6, z7, z8⟩ := zrow hr
          have hM := hC mi y bb mll ret ow true cdd hr _ _ _ h
          have hrk : rk = 0 ∨ rk = 1 ∨ rk = 2 ∨ rk = 3 := k1 ▸ (zrow_own hr).2
          refine zcallK (rest := (zdr n st).map (zcv ad w)) (va_runSN (host := "BoxHedge") (As := (zrv (ztk n st) []).map (zcv ad w)) (Ts := zgood) (own := zcn own) (index := idx) ⟨hx, hb, hml, hown, hts⟩ hM
            ⟨va_cnB n hts (zgoodIn _ (gin hr)) rfl rfl rfl (hSt.2.2.2.2.1 _ _ _ _ _ _ _ _ _ _ _ _ ho hf hr) (hts _ z2) ⟨z7.1, z7.2, by simpa using k2⟩ ⟨hR1, mhd hr⟩, hts _ (z3 rfl), trivial⟩ ⟨zblind, zpre hK hSt hbs S⟩ rfl (len c3) hls (stk c3).symm (lv_room (by rw [zcv_sum hw]; exact c2)) hdg ⟨hR3, hR4⟩) sS (zfin hw S G hrk)
    · -- arraycopy
      rw [if_neg (by decide), if_neg (by decide), if_pos rfl] at hok
      simp only [Bool.and_eq_true, decide_eq_true_eq] at hok
      obtain ⟨⟨⟨⟨k1, k2⟩, k3⟩, k4⟩, k5⟩ := hok
      have h' := h
      clear h
      match st, h' with
      | .int nn :: .int j :: .ref b2 :: .int i :: .ref a2 :: r, h =>
        dsimp only at h
        cases hc0 : Nat.ble (zcat r) 8 with
        | false => rw [hc0] at h; exact h.elim
        | true =>
          rw [hc0, cond_true] at h
          have hc0 := Nat.le_of_ble_eq_true hc0
          have hloc : ((r.map (zcv ad w)).map fun v => v.category).sum + (nativeFrameWords "java/lang/System" "arraycopy" 5 + 11) ≤ R.locals := by
            rw [zcv_sum hw]
            have : nativeFrameWords "java/lang/System" "arraycopy" 5 = 7 := by decide
            omega
          cases hq1 : Nat.beq (zsh a2) 20 && Nat.beq (zsh b2) 20 with
          | true =>
            rw [hq1, cond_true] at h
            rw [Bool.and_eq_true] at hq1
            have hza := Nat.eq_of_beq_eq_true hq1.1
            have hzb := Nat.eq_of_beq_eq_true hq1.2
            have hpa := zpl_of (p := a2) (by omega)
            have hpb := zpl_of (p := b2) (by omega)
            have hea : (zws cA ad mm)[a2 - 20]? = some (ad a2, .inl (cA 0, zlen a2, .inl (gI mm a2))) := by rw [zws_get hpa, zen_20 hza]
            have heb : (zws cA ad mm)[b2 - 20]? = some (ad b2, .inl (cA 0, zlen b2, .inl (gI mm b2))) := by rw [zws_get hpb, zen_20 hzb]
            obtain ⟨⟨g1, g2, g3, g4, g5⟩, h⟩ := h
            simp only [List.map_cons]
            rw [zcv_ne (p := b2) (fun z => by have := hpb.1; omega), zcv_ne (p := a2) (fun z => by have := hpa.1; omega)]
            refine va_copyi hx hb (by rw [hml, hls]) hown (hts _ (zhas_in k2)) (hts _ (zhas_in k3)) (hts _ (zhas_in k4)) (hts _ (zhas_in k5)) hK sP (hAd.d mm) sS (a2 - 20) (b2 - 20) 0 0 hea heb (ty := .int) rfl rfl rfl g1 g2 g3 g4 g5 (fun _ _ => rfl) (by omega) hloc hdg (fun H1 locs1 hP1 _ hS1 => ?_)
            have e1 : zen cA ad (cpI mm a2 i.toNatClampNeg b2 j.toNatClampNeg nn.toNatClampNeg) b2 = .inl (cA 0, zlen b2, .inl (va_cpy (gI mm a2) (gI mm b2) i.toNatClampNeg j.toNatClampNeg nn.toNatClampNeg)) := by
              rw [zen_20 hzb]
              congr 4
              funext k
              rw [gI_cpI, if_pos rfl]
            rw [zws_set hpb e1 (fun q2 hq2 => zen_cpI hq2)] at hP1
            refine G _ _ _ _ _ _ _ h ⟨sl, sz, hP1, hS1, ⟨fun p hp j2 => ?_, fun p q2 hg => sW.2 p q2 hg⟩⟩
            rw [gI_cpI, if_neg (fun z => by have := hpb.1; omega)]
            exact sW.1 p hp j2
          | false =>
           rw [hq1, cond_false] at h
           cases hq2 : Nat.beq (zsh a2) 22 && Nat.beq (zsh b2) 22 with
           | false => rw [hq2] at h; exact h.elim
           | true =>
            rw [hq2, cond_true] at h
            rw [Bool.and_eq_true] at hq2
            have hza := Nat.eq_of_beq_eq_true hq2.1
            have hzb := Nat.eq_of_beq_eq_true hq2.2
            have hpa := zpl_of (p := a2) (by omega)
            have hpb := zpl_of (p := b2) (by omega)
            have hea : (zws cA ad mm)[a2 - 20]? = some (ad a2, .inl (cA 2, zlen a2, .inr (.inl (gL mm a2)))) := by rw [zws_get hpa, zen_22 hza]
            have heb : (zws cA ad mm)[b2 - 20]? = some (ad b2, .inl (cA 2, zlen b2, .inr (.inl (gL mm b2)))) := by rw [zws_get hpb, zen_22 hzb]
            obtain ⟨⟨g1, g2, g3, g4, g5⟩, h⟩ := h
            simp only [List.map_cons]
            rw [zcv_ne (p := b2) (fun z => by have := hpb.1; omega), zcv_ne (p := a2) (fun z => by have := hpa.1; omega)]
            refine va_copyl hx hb (by rw [hml, hls]) hown (hts _ (zhas_in k2)) (hts _ (zhas_in k3)) (hts _ (zhas_in k4)) (hts _ (zhas_in k5)) hK sP (hAd.d mm) sS (a2 - 20) (b2 - 20) 2 2 hea heb (ty := .long) rfl rfl rfl g1 g2 g3 g4 g5 (fun _ _ => rfl) (by omega) hloc hdg (fun H1 locs1 hP1 _ hS1 => ?_)
            have e1 : zen cA ad (cpL mm a2 i.toNatClampNeg b2 j.toNatClampNeg nn.toNatClampNeg) b2 = .inl (cA 2, zlen b2, .inr (.inl (va_cpy (gL mm a2) (gL mm b2) i.toNatClampNeg j.toNatClampNeg nn.toNatClampNeg))) := by
              rw [zen_22 hzb]
              congr 5
              funext k
              rw [gL_cpL, if_pos rfl]
            rw [zws_set hpb e1 (fun q2 hq2 => zen_cpL hq2)] at hP1
            exact G _ _ _ _ _ _ _ h ⟨sl, sz, hP1, hS1, ⟨fun p hp j2 => sW.1 p hp j2, fun p q2 hg => sW.2 p q2 hg⟩⟩
    · -- max
      rw [if_pos rfl] at hok
      simp only [Bool.and_eq_true, decide_eq_true_eq] at hok
      obtain ⟨x, y, r, rfl, h9⟩ := zi2_ok h
      cases hc0 : Nat.ble (zcat r) 8 with
      | false => rw [hc0] at h9; exact h9.elim
      | true =>
        rw [hc0, cond_true] at h9
        have hc0 := Nat.le_of_ble_eq_true hc0
        exact va_mmax hx hb (by rw [hml, hls]) hown (hts _ (zhas_in hok.2)) (hts _ zmth_max.1) (hts _ zmth_max.2.1) (hts _ zmth_max.2.2) (by omega) (by rw [zcv_sum hw]; omega) (by omega) (by omega) hdg (G _ _ _ _ _ _ _ h9 S)
    · -- min
      rw [if_neg (by decide), if_pos rfl] at hok
      simp only [Bool.and_eq_true, decide_eq_true_eq] at hok
      obtain ⟨x, y, r, rfl, h9⟩ := zi2_ok h
      cases hc0 : Nat.ble (zcat r) 8 with
      | false => rw [hc0] at h9; exact h9.elim
      | true =>
        rw [hc0, cond_true] at h9
        have hc0 := Nat.le_of_ble_eq_true hc0
        exact va_mmin hx hb (by rw [hml, hls]) hown (hts _ (zhas_in hok.2)) (hts _ zmth_min.1) (hts _ zmth_min.2.1) (hts _ zmth_min.2.2) (by omega) (by rw [zcv_sum hw]; omega) (by omega) (by omega) hdg (G _ _ _ _ _ _ _ h9 S)
    · exact h.elim
end ZB
