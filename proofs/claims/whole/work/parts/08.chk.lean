/-! what the tables say of each instruction, by the places of their words -/
def ztys (ci k : Nat) : FieldType := match ci with
  | 0 => tyX0 k
  | 1 => tyX1 k
  | 2 => tyX2 k
  | 3 => tyX3 k
  | 4 => tyX4 k
  | 5 => tyX5 k
  | 6 => tyX6 k
  | 7 => tyX7 k
  | 8 => tyX8 k
  | 9 => tyX9 k
  | 10 => tyX10 k
  | _ => .int
def zchunk (c : Nat) : List Cond := match c with
  | 0 => k2_sels lw_privs
  | 1 => tables_1_1
  | 2 => tables_1_2
  | 3 => tables_1_3
  | 4 => tables_1_4
  | 5 => tables_1_5
  | _ => tables_1_6
theorem zchunk_mem {c : Nat} {w : Cond} (h : w ∈ zchunk c) : w ∈ lw_tbl := by
  unfold zchunk at h
  unfold lw_tbl tables_1
  simp only [List.mem_append]
  split at h
  · exact Or.inl h
  · exact Or.inr (Or.inl h)
  · exact Or.inr (Or.inr (Or.inl h))
  · exact Or.inr (Or.inr (Or.inr (Or.inl h)))
  · exact Or.inr (Or.inr (Or.inr (Or.inr (Or.inl h))))
  · exact Or.inr (Or.inr (Or.inr (Or.inr (Or.inr (Or.inl h)))))
  · exact Or.inr (Or.inr (Or.inr (Or.inr (Or.inr (Or.inr h)))))
/-- a word at its place: a thousand times its list, and its place there -/
def zword (p : Nat) (w : Cond) : Bool := decide ((zchunk (p / 1000))[p % 1000]? = some w)
theorem zword_mem {p : Nat} {w : Cond} (h : zword p w = true) : w ∈ lw_tbl := zchunk_mem (List.mem_of_getElem? (of_decide_eq_true h))
def zhost : String := "PromiseTries"
/-- a field by its word: place, whether by a nest mate -/
def zfck (own : String) (idx ci k : Nat) (w : List Nat) : Bool := match vwCl[ci]?, w with
  | some (_, T, N), [p, 0] => decide (k < N) && zword p (.fieldLink own idx (T k).1 (T k).2.1 (T k).2.2.1)
  | some (_, T, N), [p, _] => decide (k < N) && zword p (.fieldLinkNest own idx (T k).1 (T k).2.1 (T k).2.2.1 zhost)
  | _, _ => false
def ztyc (ty : FieldType) : Nat := match ty with
  | .long => 1
  | .object _ => 2
  | .array _ => 2
  | .boolean => 3
  | .int => 0
  | _ => 9
def zfin (ci k : Nat) : Bool := match vwCl[ci]? with
  | some (_, T, _) => (T k).2.2.2
  | none => true
abbrev zNi : Type := MethodName × ByteArray × Nat × Option FieldType
def zNl : List zNi := [(yX0_init, cX0_init, 1, none), (yX0_begin, cX0_begin, 2, none), (yX0_condition, cX0_condition, 4, none), (yX0_chainTwo, cX0_chainTwo, 2, none), (yX0_chooseOfTwo, cX0_chooseOfTwo, 2, none), (yX0_repeat, cX0_repeat, 5, none), (yX0_chainCopies, cX0_chainCopies, 12, none), (yX0_finish, cX0_finish, 1, none), (yX1_init, cX1_init, 1, none), (yX1_sideOf, cX1_sideOf, 2, some (.object "PromiseTries$Sequence")), (yX1_isPutOffBy, cX1_isPutOffBy, 2, some .boolean), (yX2_init, cX2_init, 1, none), (yX2_readAll, cX2_readAll, 3, some .int), (yX2_readPromise, cX2_readPromise, 2, some .boolean), (yX2_readOff, cX2_readOff, 2, some .boolean), (yX2_readChoice, cX2_readChoice, 3, some .boolean), (yX2_readChain, cX2_readChain, 3, some .boolean), (yX2_readRepeated, cX2_readRepeated, 4, some .boolean), (yX2_readNumber, cX2_readNumber, 2, some .boolean), (yX2_readPart, cX2_readPart, 2, some .boolean), (yX2_readCondition, cX2_readCondition, 4, some .boolean), (yX2_readPlain, cX2_readPlain, 2, some .boolean), (yX2_readAnyOf, cX2_readAnyOf, 3, some .boolean), (yX2_readAllOf, cX2_readAllOf, 3, some .boolean), (yX3_init, cX3_init, 1, none), (yX3_clear, cX3_clear, 1, none), (yX3_addCondition, cX3_addCondition, 2, some .long), (yX3_link, cX3_link, 8, none), (yX3_copyBlock, cX3_copyBlock, 11, none), (yX3_findUseful, cX3_findUseful, 7, none), (yX3_openTo, cX3_openTo, 5, some .long), (yX3_after, cX3_after, 10, some .long), (yX3_walk, cX3_walk, 7, some .long), (yX3_hasEnded, cX3_hasEnded, 3, some .boolean), (yX3_goesOn, cX3_goesOn, 3, some .boolean), (yX4_init, cX4_init, 1, none), (yX4_renew, cX4_renew, 4, none), (yX4_tearAt, cX4_tearAt, 3, some .int), (yX4_setCell, cX4_setCell, 3, none), (yX5_init, cX5_init, 1, none), (yX5_begin, cX5_begin, 1, none), (yX5_refuse, cX5_refuse, 2, some .boolean), (yX5_advance, cX5_advance, 2, none), (yX5_advanceNumber, cX5_advanceNumber, 3, none), (yX5_isFigure, cX5_isFigure, 1, some .boolean), (yX5_isSign, cX5_isSign, 1, some .boolean), (yX5_beginsSequence, cX5_beginsSequence, 1, some .boolean), (yX6_init, cX6_init, 1, none), (yX6_add, cX6_add, 2, none), (yX6_become, cX6_become, 2, none), (yX7_init, cX7_init, 1, none), (yX7_clear, cX7_clear, 1, none), (yX7_pushWire, cX7_pushWire, 3, none), (yX7_wordOfWire, cX7_wordOfWire, 2, some .long), (yX7_negate, cX7_negate, 2, none), (yX7_joinTwo, cX7_joinTwo, 6, none), (yX7_drop, cX7_drop, 1, none), (yX7_moveTop, cX7_moveTop, 4, none), (yX8_init, cX8_init, 1, none), (yX8_restart, cX8_restart, 1, none), (yX8_catchUp, cX8_catchUp, 3, none), (yX8_takeIn, cX8_takeIn, 5, none), (yX8_moveDuties, cX8_moveDuties, 5, none), (yX8_moveTries, cX8_moveTries, 6, some .boolean), (yX8_beginDuty, cX8_beginDuty, 5, none), (yX8_settleDuty, cX8_settleDuty, 5, none), (yX8_judgeTries, cX8_judgeTries, 4, none), (yX8_judge, cX8_judge, 3, some .int), (yX8_howMany, cX8_howMany, 4, some .int), (yX8_earliest, cX8_earliest, 3, some .int), (yX8_failedBy, cX8_failedBy, 4, some .int), (yX8_allDuties, cX8_allDuties, 3, some .int), (yX8_dutyTick, cX8_dutyTick, 5, some .int), (yX8_dutyState, cX8_dutyState, 2, some .int), (yX9_init, cX9_init, 2, none), (yX9_feed, cX9_feed, 2, some .int), (yX9_end, cX9_end, 3, some .int), (yX9_text, cX9_text, 4, some .int), (yX9_fault, cX9_fault, 1, some .int), (yX9_rule, cX9_rule, 5, some .int), (yX9_promise, cX9_promise, 4, some .int), (yX9_fulfils, cX9_fulfils, 6, some .int), (yX9_fulfilled, cX9_fulfilled, 4, some .int), (yX9_matches, cX9_matches, 6, some .int), (yX9_might, cX9_might, 5, some .int), (yX9_tick, cX9_tick, 4, some .int), (yX9_bits, cX9_bits, 2, some .int), (yX9_put, cX9_put, 4, some .int), (yX9_keeps, cX9_keeps, 3, some .int), (yX9_draw, cX9_draw, 6, some .int), (yX9_verdict, cX9_verdict, 3, some .int), (yX9_decided, cX9_decided, 4, some .int), (yX9_duties, cX9_duties, 3, some .int), (yX9_duty, cX9_duty, 8, some .int), (yX9_tries, cX9_tries, 3, some .int), (yX9_first, cX9_first, 3, some .int), (yX9_keep, cX9_keep, 3, some .int), (yX9_back, cX9_back, 2, some .int), (yX9_sheet, cX9_sheet, 4, some .int), (yX9_lay, cX9_lay, 6, some .int), (yX9_run, cX9_run, 8, some .int), (yX9_torn, cX9_torn, 1, some .int), (yX9_count, cX9_count, 2, some .int), (yX9_isPromise, cX9_isPromise, 2, some .boolean), (yX9_isTick, cX9_isTick, 2, some .boolean), (yX9_isTry, cX9_isTry, 3, some .boolean), (yX9_isCondition, cX9_isCondition, 4, some .boolean), (yX9_isBits, cX9_isBits, 1, some .boolean), (yX9_isSide, cX9_isSide, 1, some .boolean), (yX9_isVerdict, cX9_isVerdict, 1, some .boolean), (yX9_isImage, cX9_isImage, 1, some .boolean), (yX9_isSheet, cX9_isSheet, 1, some .boolean), (yX9_isLane, cX9_isLane, 1, some .boolean), (yX9_nextSeed, cX9_nextSeed, 1, some .int), (yX9_got, cX9_got, 1, some .int), (yX9_howManyImages, cX9_howManyImages, 3, some .int), (yX9_watchOf, cX9_watchOf, 3, some (.object "PromiseTries$Watch")), (yX9_watchAnew, cX9_watchAnew, 2, none), (yX9_isFulfilled, cX9_isFulfilled, 3, some .boolean), (yX9_howManyFulfil, cX9_howManyFulfil, 4, some .int), (yX10_init, cX10_init, 2, none), (yX10_in, cX10_in, 6, some .boolean), (yX10_flag, cX10_flag, 1, some .int), (yX10_least, cX10_least, 2, some .int), (yX10_greatest, cX10_greatest, 2, some .int), (yX10_feed, cX10_feed, 2, some .int), (yX10_end, cX10_end, 3, some .int), (yX10_requires, cX10_requires, 3, none), (yX10_byteAt, cX10_byteAt, 2, some .int), (yX10_isSignByte, cX10_isSignByte, 1, some .boolean), (yX10_reads, cX10_reads, 2, none), (yX10_isSign, cX10_isSign, 2, some .boolean), (yX10_readNumber, cX10_readNumber, 4, some .int), (yX10_nests, cX10_nests, 1, none), (yX10_wires, cX10_wires, 3, none), (yX10_opensDepth, cX10_opensDepth, 1, none), (yX10_joinsAnds, cX10_joinsAnds, 4, none), (yX10_joinsOrs, cX10_joinsOrs, 2, none), (yX10_readOperand, cX10_readOperand, 2, none), (yX10_readCondition, cX10_readCondition, 5, none), (yX10_placesNow, cX10_placesNow, 1, some .int), (yX10_takes, cX10_takes, 3, none), (yX10_sum, cX10_sum, 2, some .int), (yX10_follows, cX10_follows, 6, none), (yX10_chains, cX10_chains, 3, none), (yX10_chooses, cX10_chooses, 3, none), (yX10_onePlace, cX10_onePlace, 5, none), (yX10_repeats, cX10_repeats, 17, none), (yX10_opensSequence, cX10_opensSequence, 1, none), (yX10_readBegin, cX10_readBegin, 1, none), (yX10_readTimes, cX10_readTimes, 3, none), (yX10_readEnds, cX10_readEnds, 2, none), (yX10_readSequence, cX10_readSequence, 3, none), (yX10_isFulfillable, cX10_isFulfillable, 6, some .boolean), (yX10_ends, cX10_ends, 8, none), (yX10_isBegin, cX10_isBegin, 1, some .boolean), (yX10_readPromise, cX10_readPromise, 6, none), (yX10_text, cX10_text, 3, some .int), (yX10_fault, cX10_fault, 1, some .int), (yX10_isPromise, cX10_isPromise, 2, some .boolean), (yX10_isSide, cX10_isSide, 1, some .boolean), (yX10_areBits, cX10_areBits, 1, some .boolean), (yX10_fulfilsOne, cX10_fulfilsOne, 4, some .boolean), (yX10_fulfilsOff, cX10_fulfilsOff, 3, some .boolean), (yX10_findsFulfilling, cX10_findsFulfilling, 8, none), (yX10_nextOf, cX10_nextOf, 7, some .long), (yX10_firstOf, cX10_firstOf, 2, some .long), (yX10_isEnd, cX10_isEnd, 4, some .boolean), (yX10_canEnd, cX10_canEnd, 4, some .boolean), (yX10_isConditionAsked, cX10_isConditionAsked, 4, some .boolean), (yX10_fulfils, cX10_fulfils, 5, some .int), (yX10_fulfilled, cX10_fulfilled, 6, some .int), (yX10_matches, cX10_matches, 8, some .int), (yX10_might, cX10_might, 7, some .int), (yX10_promise, cX10_promise, 4, some .int), (yX10_goesOn, cX10_goesOn, 7, none), (yX10_dies, cX10_dies, 4, none), (yX10_begins, cX10_begins, 3, none), (yX10_isAny, cX10_isAny, 6, some .boolean), (yX10_goesThrough, cX10_goesThrough, 9, none), (yX10_verdictBy, cX10_verdictBy, 6, some .int), (yX10_isTick, cX10_isTick, 2, some .boolean), (yX10_isTry, cX10_isTry, 3, some .boolean), (yX10_dutiesFrom, cX10_dutiesFrom, 4, some .int), (yX10_verdict, cX10_verdict, 3, some .int), (yX10_decided, cX10_decided, 3, some .int), (yX10_duties, cX10_duties, 3, some .int), (yX10_duty, cX10_duty, 7, some .int), (yX10_triesOf, cX10_triesOf, 5, some .int), (yX10_tries, cX10_tries, 3, some .int), (yX10_first, cX10_first, 4, some .int), (yX10_allDuties, cX10_allDuties, 4, some .int), (yX10_allTries, cX10_allTries, 4, some .int), (yX10_rule, cX10_rule, 2, some .int), (yX10_failedBy, cX10_failedBy, 5, some .int), (yX10_tick, cX10_tick, 2, some .int), (yX10_bits, cX10_bits, 2, some .int), (yX10_put, cX10_put, 4, some .int), (yX10_keeps, cX10_keeps, 3, some .int), (yX10_gets, cX10_gets, 1, some .int), (yX10_draw, cX10_draw, 5, some .int), (yX10_keep, cX10_keep, 4, some .int), (yX10_back, cX10_back, 3, some .int), (yX10_isSheet, cX10_isSheet, 2, some .boolean), (yX10_sheet, cX10_sheet, 5, some .int), (yX10_lay, cX10_lay, 4, some .int), (yX10_run, cX10_run, 8, some .int), (yX10_torn, cX10_torn, 1, some .int), (yX10_count, cX10_count, 2, some .int), (yJ13_bitCount_95d88, cJ13_bitCount_95d88, 2, some .int)]
def zNm (y : Nat) : zNi := zNl.getD y (yL_law, cL_law, 4, some .boolean)
def zrtc (rt : Nat) (ret : Option FieldType) : Bool := match rt, ret with
  | 0, none => true
  | 1, some .int => true
  | 2, some .boolean => true
  | 3, some .long => true
  | 4, some (.object _) => true
  | _, _ => false
def zcrt (rt : Nat) (ret : Option FieldType) : Bool := match rt, ret with
  | 0, none => true
  | 1, some .int => true
  | 1, some .boolean => true
  | 2, some .long => true
  | 3, some (.object _) => true
  | _, _ => false
def ztbl (pc : Nat) (lo : Int) (hi : Int) (offs : List Int) (d : Nat) (dflt : Int) (lo2 : Nat) (ts : List Nat) : Bool :=
  decide ((pc : Int) + dflt = (d : Int)) && decide (lo = (lo2 : Int)) && decide (hi = (lo2 : Int) + (ts.length : Int) - 1) && decide (offs.map (fun o => (pc : Int) + o) = ts.map (fun (t : Nat) => (t : Int))) && decide (lo2 + ts.length < 1000)
def zpairs (ts : List Nat) : List (Int × Int) := match ts with
  | k :: t :: ts => ((k : Int), (t : Int)) :: zpairs ts
  | _ => []
def zevn (ts : List Nat) : Bool := match ts with
  | [] => true
  | [_] => false
  | k :: _ :: ts => decide (k < 1000) && zevn ts
def zck (own : String) (ini : Bool) (bytes : ByteArray) (e : zC) (w : List Nat) : Bool :=
  decide (decode bytes e.1 = .ok (e.2.1, e.2.2.1)) && (match e.2.1 with
  | .iconst z => decide (e.2.2.1 = 1) && decide (Int32.ofInt z = zci e.2.2.2)
  | .bipush z => decide (e.2.2.1 = 2) && decide ((Int8.ofInt z).toInt32 = zci e.2.2.2)
  | .sipush z => decide (e.2.2.1 = 3) && decide ((Int16.ofInt z).toInt32 = zci e.2.2.2)
  | .lconst z => decide (e.2.2.1 = 1) && decide (Int64.ofNat z.val = zcl e.2.2.2)
  | .ldc i => decide (e.2.2.1 = 2) && zword (w.headD 0) (.constant own i (zci e.2.2.2))
  | .ldc_w i => decide (e.2.2.1 = 3) && zword (w.headD 0) (.constant own i (zci e.2.2.2))
  | .ldc2_w i => decide (e.2.2.1 = 3) && zword (w.headD 0) (.constantLong own i (zcl e.2.2.2))
  | .iinc _ z => decide (e.2.2.1 = 3) && decide (Int32.ofInt z = zci e.2.2.2)
  | .goto z => decide (e.2.2.1 = 3) && decide ((e.1 : Int) + z = ((e.2.2.2.headD 0 : Nat) : Int))
  | .ifCond _ z => decide (e.2.2.1 = 3) && decide ((e.1 : Int) + z = ((e.2.2.2.headD 0 : Nat) : Int))
  | .if_icmp _ z => decide (e.2.2.1 = 3) && decide ((e.1 : Int) + z = ((e.2.2.2.headD 0 : Nat) : Int))
  | .tableswitch dflt lo hi offs => (match e.2.2.2 with
    | d :: lo2 :: ts => ztbl e.1 lo hi offs.toList d dflt lo2 ts
    | _ => false)
  | .lookupswitch dflt ps => (match e.2.2.2 with
    | d :: ts => decide ((e.1 : Int) + dflt = (d : Int)) && zevn ts && decide (ps.toList.map (fun q => (q.1, (e.1 : Int) + q.2)) = zpairs ts) && (ps.toList.zip (ps.toList.drop 1)).all (fun (a, next) => a.1 < next.1)
    | _ => false)
  | .getfield i => decide (e.2.2.1 = 3) && (match e.2.2.2 with
    | [ty, ci, k] => zfck own i ci k w && (decide (ty = ztyc (ztys ci k)) || (decide (ty = 0) && decide (ztyc (ztys ci k) = 3)))
    | _ => false)
  | .putfield i => decide (e.2.2.1 = 3) && (match e.2.2.2 with
    | [ty, ci, k] => zfck own i ci k w && decide (ty = ztyc (ztys ci k)) && (match zfin ci k with
      | false => true
      | true => ini && decide ((w.drop 1).headD 1 = 0) && decide (((vwCl[ci]?).map (fun q => (q.2.1 k).1)) = some own))
    | _ => false)
  | .getstatic i => decide (e.2.2.1 = 3) && zword (w.headD 0) (.fieldLink own i "PromiseTries$TruthStack" "PATTERNS" "[J")
  | .new i => decide (e.2.2.1 = 3) && (match e.2.2.2, w with
    | [ci, N], [p1, p2, p3] => (match vwCl[ci]? with
      | some (C, _, N2) => decide (N = N2) && zword p1 (.classLink own i C) && zword p2 (.instantiable C N) && zword p3 (.initialized C)
      | none => false)
    | _, _ => false)
  | .newarray at_ => decide (e.2.2.1 = 2) && (match e.2.2.2 with
    | [t] => zword (w.headD 0) (.arrayClass (newarray.typeOf at_)) && (match t, newarray.typeOf at_ with
      | 20, .int => true
      | 21, .boolean => true
      | 22, .byte => true
      | 23, .long => true
      | _, _ => false)
    | _ => false)
  | .anewarray i => decide (e.2.2.1 = 3) && (match e.2.2.2, w with
    | [ci], [p1, p2] => (match vwCl[ci]? with
      | some (C, _, _) => zword p1 (.classLink own i C) && zword p2 (.arrayOver (.object C))
      | none => false)
    | _, _ => false)
  | .invokevirtual i => decide (e.2.2.1 = 3) && (match e.2.2.2, w with
    | [y, n, rt, tag], [p1, p2, p3, nest] => decide (y < 210) && decide (1 ≤ n) && decide ((parseMethodDescriptor (zNm y).1.desc).map (fun d => d.parameters.length) = some (n - 1)) && zcrt rt (zNm y).2.2.2 && decide (1 ≤ tag) && decide ((vwCl[tag - 1]?).map (fun q => q.1) = some (zNm y).1.cls) && zword p2 (.instanceMethod (zNm y).1) && zword p3 (.selects (zNm y).1.cls (zNm y).1 (zNm y).1) && (match nest with
      | 0 => zword p1 (.methodLink own i (zNm y).1)
      | _ => zword p1 (.methodLinkNest own i (zNm y).1 zhost))
    | _, _ => false)
  | .invokespecial i => decide (e.2.2.1 = 3) && (match e.2.2.2, w with
    | [1000, 1, 0, 0], [p1, p2] => zword p1 (.methodLink own i Lib.objectInit) && zword p2 (.instanceMethod Lib.objectInit)
    | [y, n, rt, 0], [p1, p2, nest] => decide (y < 210) && decide (1 ≤ n) && decide ((parseMethodDescriptor (zNm y).1.desc).map (fun d => d.parameters.length) = some (n - 1)) && decide (rt = 0) && decide ((zNm y).2.2.2 = none) && decide ((zNm y).1.name = "<init>") && zword p2 (.instanceMethod (zNm y).1) && (match nest with
      | 0 => zword p1 (.methodLink own i (zNm y).1)
      | _ => zword p1 (.methodLinkNest own i (zNm y).1 zhost))
    | _, _ => false)
  | .invokestatic i => decide (e.2.2.1 = 3) && (match e.2.2.2, w with
    | [1001, 5, 0, 0], [p1, p2, p3, p4] => zword p1 (.methodLink own i arraycopyName) && zword p2 (.native arraycopyName) && zword p3 (.static arraycopyName) && zword p4 (.initialized "java/lang/System")
    | [1002, 2, 1, 0], [p1, p2, p3] => zword p1 (.methodLink own i Lib.Math.max.name) && zword p2 (.static Lib.Math.max.name) && zword p3 (.initialized "java/lang/Math")
    | [1003, 2, 1, 0], [p1, p2, p3] => zword p1 (.methodLink own i Lib.Math.min.name) && zword p2 (.static Lib.Math.min.name) && zword p3 (.initialized "java/lang/Math")
    | [y, n, rt, 0], [p1, p2, nest] => decide (y < 210) && decide ((parseMethodDescriptor (zNm y).1.desc).map (fun d => d.parameters.length) = some n) && zcrt rt (zNm y).2.2.2 && zword p2 (.static (zNm y).1) && (match nest with
      | 0 => zword p1 (.methodLink own i (zNm y).1)
      | _ => zword p1 (.methodLinkNest own i (zNm y).1 zhost))
    | _, _ => false)
  | .iload_n _ => decide (e.2.2.1 = 1)
  | .lload_n _ => decide (e.2.2.1 = 1)
  | .aload_n _ => decide (e.2.2.1 = 1)
  | .istore_n _ => decide (e.2.2.1 = 1)
  | .lstore_n _ => decide (e.2.2.1 = 1)
  | .astore_n _ => decide (e.2.2.1 = 1)
  | .iload _ => decide (e.2.2.1 = 2)
  | .lload _ => decide (e.2.2.1 = 2)
  | .aload _ => decide (e.2.2.1 = 2)
  | .istore _ => decide (e.2.2.1 = 2)
  | .lstore _ => decide (e.2.2.1 = 2)
  | .astore _ => decide (e.2.2.1 = 2)
  | _ => decide (e.2.2.1 = 1))
/-- a method that is called: its words -/
def zmk (y : Nat) (w : List Nat) : Bool := match w with
  | [p2] => plainName (zNm y).1.cls && zword p2 (.initialized (zNm y).1.cls) && decide ((zNm y).1.cls ≠ "java/lang/invoke/MethodHandle") && decide ((zNm y).1.cls ≠ "java/lang/invoke/VarHandle") && decide ((zT y).1 = (zNm y).2.2.1) && decide ((zNm y).2.2.1 ≤ 40) && zrtc (zT y).2.1 (zNm y).2.2.2
  | _ => false

theorem zlay_0 : ∀ w ∈ u_ws RX0 TX0 7, w ∈ lw_tbl := fun w hw => by
  have h : (u_ws RX0 TX0 7) = ([1146, 1148, 1150, 1152, 1154, 1156, 1158] : List Nat).filterMap (fun i => (zchunk (i / 1000))[i % 1000]?) := by decide +kernel
  rw [h] at hw
  obtain ⟨i, -, hi⟩ := List.mem_filterMap.mp hw
  exact zchunk_mem (List.mem_of_getElem? hi)
theorem zlay_1 : ∀ w ∈ u_ws RX1 TX1 5, w ∈ lw_tbl := fun w hw => by
  have h : (u_ws RX1 TX1 5) = ([1221, 1223, 1225, 1227, 1229] : List Nat).filterMap (fun i => (zchunk (i / 1000))[i % 1000]?) := by decide +kernel
  rw [h] at hw
  obtain ⟨i, -, hi⟩ := List.mem_filterMap.mp hw
  exact zchunk_mem (List.mem_of_getElem? hi)
theorem zlay_2 : ∀ w ∈ u_ws RX2 TX2 3, w ∈ lw_tbl := fun w hw => by
  have h : (u_ws RX2 TX2 3) = ([1165, 1167, 1169] : List Nat).filterMap (fun i => (zchunk (i / 1000))[i % 1000]?) := by decide +kernel
  rw [h] at hw
  obtain ⟨i, -, hi⟩ := List.mem_filterMap.mp hw
  exact zchunk_mem (List.mem_of_getElem? hi)
theorem zlay_3 : ∀ w ∈ u_ws RX3 TX3 11, w ∈ lw_tbl := fun w hw => by
  have h : (u_ws RX3 TX3 11) = ([1115, 1117, 1119, 1121, 1123, 1125, 1127, 1129, 1131, 1133, 1135] : List Nat).filterMap (fun i => (zchunk (i / 1000))[i % 1000]?) := by decide +kernel
  rw [h] at hw
  obtain ⟨i, -, hi⟩ := List.mem_filterMap.mp hw
  exact zchunk_mem (List.mem_of_getElem? hi)
theorem zlay_4 : ∀ w ∈ u_ws RX4 TX4 3, w ∈ lw_tbl := fun w hw => by
  have h : (u_ws RX4 TX4 3) = ([2041, 2043, 2045] : List Nat).filterMap (fun i => (zchunk (i / 1000))[i % 1000]?) := by decide +kernel
  rw [h] at hw
  obtain ⟨i, -, hi⟩ := List.mem_filterMap.mp hw
  exact zchunk_mem (List.mem_of_getElem? hi)
theorem zlay_5 : ∀ w ∈ u_ws RX5 TX5 8, w ∈ lw_tbl := fun w hw => by
  have h : (u_ws RX5 TX5 8) = ([1049, 1051, 1053, 1055, 1057, 1059, 1061, 1063] : List Nat).filterMap (fun i => (zchunk (i / 1000))[i % 1000]?) := by decide +kernel
  rw [h] at hw
  obtain ⟨i, -, hi⟩ := List.mem_filterMap.mp hw
  exact zchunk_mem (List.mem_of_getElem? hi)
theorem zlay_6 : ∀ w ∈ u_ws RX6 TX6 2, w ∈ lw_tbl := fun w hw => by
  have h : (u_ws RX6 TX6 2) = ([1187, 1189] : List Nat).filterMap (fun i => (zchunk (i / 1000))[i % 1000]?) := by decide +kernel
  rw [h] at hw
  obtain ⟨i, -, hi⟩ := List.mem_filterMap.mp hw
  exact zchunk_mem (List.mem_of_getElem? hi)
theorem zlay_7 : ∀ w ∈ u_ws RX7 TX7 2, w ∈ lw_tbl := fun w hw => by
  have h : (u_ws RX7 TX7 2) = ([1075, 1077] : List Nat).filterMap (fun i => (zchunk (i / 1000))[i % 1000]?) := by decide +kernel
  rw [h] at hw
  obtain ⟨i, -, hi⟩ := List.mem_filterMap.mp hw
  exact zchunk_mem (List.mem_of_getElem? hi)
theorem zlay_8 : ∀ w ∈ u_ws RX8 TX8 9, w ∈ lw_tbl := fun w hw => by
  have h : (u_ws RX8 TX8 9) = ([2011, 2013, 2015, 2017, 2019, 2021, 2023, 2025, 2027] : List Nat).filterMap (fun i => (zchunk (i / 1000))[i % 1000]?) := by decide +kernel
  rw [h] at hw
  obtain ⟨i, -, hi⟩ := List.mem_filterMap.mp hw
  exact zchunk_mem (List.mem_of_getElem? hi)
theorem zlay_9 : ∀ w ∈ u_ws RX9 TX9 12, w ∈ lw_tbl := fun w hw => by
  have h : (u_ws RX9 TX9 12) = ([2060, 2062, 2064, 2066, 2068, 2070, 2072, 2074, 2076, 2078, 2080, 2082] : List Nat).filterMap (fun i => (zchunk (i / 1000))[i % 1000]?) := by decide +kernel
  rw [h] at hw
  obtain ⟨i, -, hi⟩ := List.mem_filterMap.mp hw
  exact zchunk_mem (List.mem_of_getElem? hi)
theorem zlay_10 : ∀ w ∈ u_ws RX10 TX10 52, w ∈ lw_tbl := fun w hw => by
  have h : (u_ws RX10 TX10 52) = ([4128, 4130, 4132, 4134, 4136, 4138, 4140, 4142, 4144, 4146, 4148, 4150, 4152, 4154, 4156, 4158, 4160, 4162, 4164, 4166, 4168, 4170, 4172, 4174, 4176, 4178, 4180, 4182, 4184, 4186, 4188, 4190, 4192, 4194, 4196, 4198, 4200, 4202, 4204, 4206, 4208, 4210, 4212, 4214, 4216, 4218, 4220, 4222, 4224, 4226, 4228, 4230] : List Nat).filterMap (fun i => (zchunk (i / 1000))[i % 1000]?) := by decide +kernel
  rw [h] at hw
  obtain ⟨i, -, hi⟩ := List.mem_filterMap.mp hw
  exact zchunk_mem (List.mem_of_getElem? hi)
theorem zcw_X0_init : Cond.code yX0_init cX0_init 1 none ∈ lw_tbl := zchunk_mem (c := 1) (List.mem_of_getElem? (i := 85) rfl)
theorem zcw_X0_begin : Cond.code yX0_begin cX0_begin 2 none ∈ lw_tbl := zchunk_mem (c := 2) (List.mem_of_getElem? (i := 139) rfl)
theorem zcw_X0_condition : Cond.code yX0_condition cX0_condition 4 none ∈ lw_tbl := zchunk_mem (c := 2) (List.mem_of_getElem? (i := 198) rfl)
theorem zcw_X0_chainTwo : Cond.code yX0_chainTwo cX0_chainTwo 2 none ∈ lw_tbl := zchunk_mem (c := 3) (List.mem_of_getElem? (i := 1) rfl)
theorem zcw_X0_chooseOfTwo : Cond.code yX0_chooseOfTwo cX0_chooseOfTwo 2 none ∈ lw_tbl := zchunk_mem (c := 3) (List.mem_of_getElem? (i := 5) rfl)
theorem zcw_X0_repeat : Cond.code yX0_repeat cX0_repeat 5 none ∈ lw_tbl := zchunk_mem (c := 2) (List.mem_of_getElem? (i := 221) rfl)
theorem zcw_X0_chainCopies : Cond.code yX0_chainCopies cX0_chainCopies 12 none ∈ lw_tbl := zchunk_mem (c := 2) (List.mem_of_getElem? (i := 229) rfl)
theorem zcw_X0_finish : Cond.code yX0_finish cX0_finish 1 none ∈ lw_tbl := zchunk_mem (c := 3) (List.mem_of_getElem? (i := 9) rfl)
theorem zcw_X1_init : Cond.code yX1_init cX1_init 1 none ∈ lw_tbl := zchunk_mem (c := 1) (List.mem_of_getElem? (i := 200) rfl)
theorem zcw_X1_sideOf : Cond.code yX1_sideOf cX1_sideOf 2 (some (.object "PromiseTries$Sequence")) ∈ lw_tbl := zchunk_mem (c := 3) (List.mem_of_getElem? (i := 136) rfl)
theorem zcw_X1_isPutOffBy : Cond.code yX1_isPutOffBy cX1_isPutOffBy 2 (some .boolean) ∈ lw_tbl := zchunk_mem (c := 3) (List.mem_of_getElem? (i := 94) rfl)
theorem zcw_X2_init : Cond.code yX2_init cX2_init 1 none ∈ lw_tbl := zchunk_mem (c := 1) (List.mem_of_getElem? (i := 27) rfl)
theorem zcw_X2_readAll : Cond.code yX2_readAll cX2_readAll 3 (some .int) ∈ lw_tbl := zchunk_mem (c := 2) (List.mem_of_getElem? (i := 100) rfl)
theorem zcw_X2_readPromise : Cond.code yX2_readPromise cX2_readPromise 2 (some .boolean) ∈ lw_tbl := zchunk_mem (c := 2) (List.mem_of_getElem? (i := 135) rfl)
theorem zcw_X2_readOff : Cond.code yX2_readOff cX2_readOff 2 (some .boolean) ∈ lw_tbl := zchunk_mem (c := 3) (List.mem_of_getElem? (i := 26) rfl)
theorem zcw_X2_readChoice : Cond.code yX2_readChoice cX2_readChoice 3 (some .boolean) ∈ lw_tbl := zchunk_mem (c := 2) (List.mem_of_getElem? (i := 147) rfl)
theorem zcw_X2_readChain : Cond.code yX2_readChain cX2_readChain 3 (some .boolean) ∈ lw_tbl := zchunk_mem (c := 2) (List.mem_of_getElem? (i := 151) rfl)
theorem zcw_X2_readRepeated : Cond.code yX2_readRepeated cX2_readRepeated 4 (some .boolean) ∈ lw_tbl := zchunk_mem (c := 2) (List.mem_of_getElem? (i := 155) rfl)
theorem zcw_X2_readNumber : Cond.code yX2_readNumber cX2_readNumber 2 (some .boolean) ∈ lw_tbl := zchunk_mem (c := 2) (List.mem_of_getElem? (i := 214) rfl)
theorem zcw_X2_readPart : Cond.code yX2_readPart cX2_readPart 2 (some .boolean) ∈ lw_tbl := zchunk_mem (c := 2) (List.mem_of_getElem? (i := 159) rfl)
theorem zcw_X2_readCondition : Cond.code yX2_readCondition cX2_readCondition 4 (some .boolean) ∈ lw_tbl := zchunk_mem (c := 2) (List.mem_of_getElem? (i := 163) rfl)
theorem zcw_X2_readPlain : Cond.code yX2_readPlain cX2_readPlain 2 (some .boolean) ∈ lw_tbl := zchunk_mem (c := 2) (List.mem_of_getElem? (i := 168) rfl)
theorem zcw_X2_readAnyOf : Cond.code yX2_readAnyOf cX2_readAnyOf 3 (some .boolean) ∈ lw_tbl := zchunk_mem (c := 2) (List.mem_of_getElem? (i := 182) rfl)
theorem zcw_X2_readAllOf : Cond.code yX2_readAllOf cX2_readAllOf 3 (some .boolean) ∈ lw_tbl := zchunk_mem (c := 2) (List.mem_of_getElem? (i := 186) rfl)
theorem zcw_X3_init : Cond.code yX3_init cX3_init 1 none ∈ lw_tbl := zchunk_mem (c := 1) (List.mem_of_getElem? (i := 91) rfl)
theorem zcw_X3_clear : Cond.code yX3_clear cX3_clear 1 none ∈ lw_tbl := zchunk_mem (c := 2) (List.mem_of_getElem? (i := 143) rfl)
theorem zcw_X3_addCondition : Cond.code yX3_addCondition cX3_addCondition 2 (some .long) ∈ lw_tbl := zchunk_mem (c := 2) (List.mem_of_getElem? (i := 202) rfl)
theorem zcw_X3_link : Cond.code yX3_link cX3_link 8 none ∈ lw_tbl := zchunk_mem (c := 2) (List.mem_of_getElem? (i := 234) rfl)
theorem zcw_X3_copyBlock : Cond.code yX3_copyBlock cX3_copyBlock 11 none ∈ lw_tbl := zchunk_mem (c := 2) (List.mem_of_getElem? (i := 225) rfl)
theorem zcw_X3_findUseful : Cond.code yX3_findUseful cX3_findUseful 7 none ∈ lw_tbl := zchunk_mem (c := 3) (List.mem_of_getElem? (i := 13) rfl)
theorem zcw_X3_openTo : Cond.code yX3_openTo cX3_openTo 5 (some .long) ∈ lw_tbl := zchunk_mem (c := 3) (List.mem_of_getElem? (i := 59) rfl)
theorem zcw_X3_after : Cond.code yX3_after cX3_after 10 (some .long) ∈ lw_tbl := zchunk_mem (c := 3) (List.mem_of_getElem? (i := 70) rfl)
theorem zcw_X3_walk : Cond.code yX3_walk cX3_walk 7 (some .long) ∈ lw_tbl := zchunk_mem (c := 3) (List.mem_of_getElem? (i := 153) rfl)
theorem zcw_X3_hasEnded : Cond.code yX3_hasEnded cX3_hasEnded 3 (some .boolean) ∈ lw_tbl := zchunk_mem (c := 3) (List.mem_of_getElem? (i := 78) rfl)
theorem zcw_X3_goesOn : Cond.code yX3_goesOn cX3_goesOn 3 (some .boolean) ∈ lw_tbl := zchunk_mem (c := 3) (List.mem_of_getElem? (i := 82) rfl)
theorem zcw_X4_init : Cond.code yX4_init cX4_init 1 none ∈ lw_tbl := zchunk_mem (c := 2) (List.mem_of_getElem? (i := 33) rfl)
theorem zcw_X4_renew : Cond.code yX4_renew cX4_renew 4 none ∈ lw_tbl := zchunk_mem (c := 4) (List.mem_of_getElem? (i := 35) rfl)
theorem zcw_X4_tearAt : Cond.code yX4_tearAt cX4_tearAt 3 (some .int) ∈ lw_tbl := zchunk_mem (c := 4) (List.mem_of_getElem? (i := 43) rfl)
theorem zcw_X4_setCell : Cond.code yX4_setCell cX4_setCell 3 none ∈ lw_tbl := zchunk_mem (c := 4) (List.mem_of_getElem? (i := 47) rfl)
theorem zcw_X5_init : Cond.code yX5_init cX5_init 1 none ∈ lw_tbl := zchunk_mem (c := 1) (List.mem_of_getElem? (i := 33) rfl)
theorem zcw_X5_begin : Cond.code yX5_begin cX5_begin 1 none ∈ lw_tbl := zchunk_mem (c := 2) (List.mem_of_getElem? (i := 104) rfl)
theorem zcw_X5_refuse : Cond.code yX5_refuse cX5_refuse 2 (some .boolean) ∈ lw_tbl := zchunk_mem (c := 2) (List.mem_of_getElem? (i := 119) rfl)
theorem zcw_X5_advance : Cond.code yX5_advance cX5_advance 2 none ∈ lw_tbl := zchunk_mem (c := 2) (List.mem_of_getElem? (i := 108) rfl)
theorem zcw_X5_advanceNumber : Cond.code yX5_advanceNumber cX5_advanceNumber 3 none ∈ lw_tbl := zchunk_mem (c := 2) (List.mem_of_getElem? (i := 115) rfl)
theorem zcw_X5_isFigure : Cond.code yX5_isFigure cX5_isFigure 1 (some .boolean) ∈ lw_tbl := zchunk_mem (c := 2) (List.mem_of_getElem? (i := 111) rfl)
theorem zcw_X5_isSign : Cond.code yX5_isSign cX5_isSign 1 (some .boolean) ∈ lw_tbl := zchunk_mem (c := 2) (List.mem_of_getElem? (i := 122) rfl)
theorem zcw_X5_beginsSequence : Cond.code yX5_beginsSequence cX5_beginsSequence 1 (some .boolean) ∈ lw_tbl := zchunk_mem (c := 2) (List.mem_of_getElem? (i := 130) rfl)
theorem zcw_X6_init : Cond.code yX6_init cX6_init 1 none ∈ lw_tbl := zchunk_mem (c := 1) (List.mem_of_getElem? (i := 178) rfl)
theorem zcw_X6_add : Cond.code yX6_add cX6_add 2 none ∈ lw_tbl := zchunk_mem (c := 3) (List.mem_of_getElem? (i := 169) rfl)
theorem zcw_X6_become : Cond.code yX6_become cX6_become 2 none ∈ lw_tbl := zchunk_mem (c := 4) (List.mem_of_getElem? (i := 14) rfl)
theorem zcw_X7_init : Cond.code yX7_init cX7_init 1 none ∈ lw_tbl := zchunk_mem (c := 1) (List.mem_of_getElem? (i := 71) rfl)
theorem zcw_X7_clear : Cond.code yX7_clear cX7_clear 1 none ∈ lw_tbl := zchunk_mem (c := 2) (List.mem_of_getElem? (i := 126) rfl)
theorem zcw_X7_pushWire : Cond.code yX7_pushWire cX7_pushWire 3 none ∈ lw_tbl := zchunk_mem (c := 2) (List.mem_of_getElem? (i := 172) rfl)
theorem zcw_X7_wordOfWire : Cond.code yX7_wordOfWire cX7_wordOfWire 2 (some .long) ∈ lw_tbl := zchunk_mem (c := 2) (List.mem_of_getElem? (i := 175) rfl)
theorem zcw_X7_negate : Cond.code yX7_negate cX7_negate 2 none ∈ lw_tbl := zchunk_mem (c := 2) (List.mem_of_getElem? (i := 194) rfl)
theorem zcw_X7_joinTwo : Cond.code yX7_joinTwo cX7_joinTwo 6 none ∈ lw_tbl := zchunk_mem (c := 2) (List.mem_of_getElem? (i := 190) rfl)
theorem zcw_X7_drop : Cond.code yX7_drop cX7_drop 1 none ∈ lw_tbl := zchunk_mem (c := 2) (List.mem_of_getElem? (i := 206) rfl)
theorem zcw_X7_moveTop : Cond.code yX7_moveTop cX7_moveTop 4 none ∈ lw_tbl := zchunk_mem (c := 2) (List.mem_of_getElem? (i := 210) rfl)
theorem zcw_X8_init : Cond.code yX8_init cX8_init 1 none ∈ lw_tbl := zchunk_mem (c := 1) (List.mem_of_getElem? (i := 236) rfl)
theorem zcw_X8_restart : Cond.code yX8_restart cX8_restart 1 none ∈ lw_tbl := zchunk_mem (c := 3) (List.mem_of_getElem? (i := 35) rfl)
theorem zcw_X8_catchUp : Cond.code yX8_catchUp cX8_catchUp 3 none ∈ lw_tbl := zchunk_mem (c := 3) (List.mem_of_getElem? (i := 51) rfl)
theorem zcw_X8_takeIn : Cond.code yX8_takeIn cX8_takeIn 5 none ∈ lw_tbl := zchunk_mem (c := 3) (List.mem_of_getElem? (i := 55) rfl)
theorem zcw_X8_moveDuties : Cond.code yX8_moveDuties cX8_moveDuties 5 none ∈ lw_tbl := zchunk_mem (c := 3) (List.mem_of_getElem? (i := 66) rfl)
theorem zcw_X8_moveTries : Cond.code yX8_moveTries cX8_moveTries 6 (some .boolean) ∈ lw_tbl := zchunk_mem (c := 3) (List.mem_of_getElem? (i := 86) rfl)
theorem zcw_X8_beginDuty : Cond.code yX8_beginDuty cX8_beginDuty 5 none ∈ lw_tbl := zchunk_mem (c := 3) (List.mem_of_getElem? (i := 90) rfl)
theorem zcw_X8_settleDuty : Cond.code yX8_settleDuty cX8_settleDuty 5 none ∈ lw_tbl := zchunk_mem (c := 3) (List.mem_of_getElem? (i := 74) rfl)
theorem zcw_X8_judgeTries : Cond.code yX8_judgeTries cX8_judgeTries 4 none ∈ lw_tbl := zchunk_mem (c := 3) (List.mem_of_getElem? (i := 99) rfl)
theorem zcw_X8_judge : Cond.code yX8_judge cX8_judge 3 (some .int) ∈ lw_tbl := zchunk_mem (c := 3) (List.mem_of_getElem? (i := 103) rfl)
theorem zcw_X8_howMany : Cond.code yX8_howMany cX8_howMany 4 (some .int) ∈ lw_tbl := zchunk_mem (c := 3) (List.mem_of_getElem? (i := 113) rfl)
theorem zcw_X8_earliest : Cond.code yX8_earliest cX8_earliest 3 (some .int) ∈ lw_tbl := zchunk_mem (c := 4) (List.mem_of_getElem? (i := 3) rfl)
theorem zcw_X8_failedBy : Cond.code yX8_failedBy cX8_failedBy 4 (some .int) ∈ lw_tbl := zchunk_mem (c := 3) (List.mem_of_getElem? (i := 173) rfl)
theorem zcw_X8_allDuties : Cond.code yX8_allDuties cX8_allDuties 3 (some .int) ∈ lw_tbl := zchunk_mem (c := 3) (List.mem_of_getElem? (i := 108) rfl)
theorem zcw_X8_dutyTick : Cond.code yX8_dutyTick cX8_dutyTick 5 (some .int) ∈ lw_tbl := zchunk_mem (c := 3) (List.mem_of_getElem? (i := 224) rfl)
theorem zcw_X8_dutyState : Cond.code yX8_dutyState cX8_dutyState 2 (some .int) ∈ lw_tbl := zchunk_mem (c := 3) (List.mem_of_getElem? (i := 228) rfl)
theorem zcw_X9_init : Cond.code yX9_init cX9_init 2 none ∈ lw_tbl := zchunk_mem (c := 1) (List.mem_of_getElem? (i := 19) rfl)
theorem zcw_X9_feed : Cond.code yX9_feed cX9_feed 2 (some .int) ∈ lw_tbl := zchunk_mem (c := 2) (List.mem_of_getElem? (i := 88) rfl)
theorem zcw_X9_end : Cond.code yX9_end cX9_end 3 (some .int) ∈ lw_tbl := zchunk_mem (c := 2) (List.mem_of_getElem? (i := 92) rfl)
theorem zcw_X9_text : Cond.code yX9_text cX9_text 4 (some .int) ∈ lw_tbl := zchunk_mem (c := 2) (List.mem_of_getElem? (i := 96) rfl)
theorem zcw_X9_fault : Cond.code yX9_fault cX9_fault 1 (some .int) ∈ lw_tbl := zchunk_mem (c := 3) (List.mem_of_getElem? (i := 39) rfl)
theorem zcw_X9_rule : Cond.code yX9_rule cX9_rule 5 (some .int) ∈ lw_tbl := zchunk_mem (c := 3) (List.mem_of_getElem? (i := 43) rfl)
theorem zcw_X9_promise : Cond.code yX9_promise cX9_promise 4 (some .int) ∈ lw_tbl := zchunk_mem (c := 3) (List.mem_of_getElem? (i := 117) rfl)
theorem zcw_X9_fulfils : Cond.code yX9_fulfils cX9_fulfils 6 (some .int) ∈ lw_tbl := zchunk_mem (c := 3) (List.mem_of_getElem? (i := 125) rfl)
theorem zcw_X9_fulfilled : Cond.code yX9_fulfilled cX9_fulfilled 4 (some .int) ∈ lw_tbl := zchunk_mem (c := 3) (List.mem_of_getElem? (i := 144) rfl)
theorem zcw_X9_matches : Cond.code yX9_matches cX9_matches 6 (some .int) ∈ lw_tbl := zchunk_mem (c := 3) (List.mem_of_getElem? (i := 149) rfl)
theorem zcw_X9_might : Cond.code yX9_might cX9_might 5 (some .int) ∈ lw_tbl := zchunk_mem (c := 3) (List.mem_of_getElem? (i := 160) rfl)
theorem zcw_X9_tick : Cond.code yX9_tick cX9_tick 4 (some .int) ∈ lw_tbl := zchunk_mem (c := 3) (List.mem_of_getElem? (i := 165) rfl)
theorem zcw_X9_bits : Cond.code yX9_bits cX9_bits 2 (some .int) ∈ lw_tbl := zchunk_mem (c := 3) (List.mem_of_getElem? (i := 177) rfl)
theorem zcw_X9_put : Cond.code yX9_put cX9_put 4 (some .int) ∈ lw_tbl := zchunk_mem (c := 3) (List.mem_of_getElem? (i := 185) rfl)
theorem zcw_X9_keeps : Cond.code yX9_keeps cX9_keeps 3 (some .int) ∈ lw_tbl := zchunk_mem (c := 3) (List.mem_of_getElem? (i := 189) rfl)
theorem zcw_X9_draw : Cond.code yX9_draw cX9_draw 6 (some .int) ∈ lw_tbl := zchunk_mem (c := 3) (List.mem_of_getElem? (i := 193) rfl)
theorem zcw_X9_verdict : Cond.code yX9_verdict cX9_verdict 3 (some .int) ∈ lw_tbl := zchunk_mem (c := 3) (List.mem_of_getElem? (i := 204) rfl)
theorem zcw_X9_decided : Cond.code yX9_decided cX9_decided 4 (some .int) ∈ lw_tbl := zchunk_mem (c := 3) (List.mem_of_getElem? (i := 212) rfl)
theorem zcw_X9_duties : Cond.code yX9_duties cX9_duties 3 (some .int) ∈ lw_tbl := zchunk_mem (c := 3) (List.mem_of_getElem? (i := 216) rfl)
theorem zcw_X9_duty : Cond.code yX9_duty cX9_duty 8 (some .int) ∈ lw_tbl := zchunk_mem (c := 3) (List.mem_of_getElem? (i := 220) rfl)
theorem zcw_X9_tries : Cond.code yX9_tries cX9_tries 3 (some .int) ∈ lw_tbl := zchunk_mem (c := 3) (List.mem_of_getElem? (i := 232) rfl)
theorem zcw_X9_first : Cond.code yX9_first cX9_first 3 (some .int) ∈ lw_tbl := zchunk_mem (c := 3) (List.mem_of_getElem? (i := 239) rfl)
theorem zcw_X9_keep : Cond.code yX9_keep cX9_keep 3 (some .int) ∈ lw_tbl := zchunk_mem (c := 4) (List.mem_of_getElem? (i := 7) rfl)
theorem zcw_X9_back : Cond.code yX9_back cX9_back 2 (some .int) ∈ lw_tbl := zchunk_mem (c := 4) (List.mem_of_getElem? (i := 21) rfl)
theorem zcw_X9_sheet : Cond.code yX9_sheet cX9_sheet 4 (some .int) ∈ lw_tbl := zchunk_mem (c := 4) (List.mem_of_getElem? (i := 25) rfl)
theorem zcw_X9_lay : Cond.code yX9_lay cX9_lay 6 (some .int) ∈ lw_tbl := zchunk_mem (c := 4) (List.mem_of_getElem? (i := 39) rfl)
theorem zcw_X9_run : Cond.code yX9_run cX9_run 8 (some .int) ∈ lw_tbl := zchunk_mem (c := 4) (List.mem_of_getElem? (i := 51) rfl)
theorem zcw_X9_torn : Cond.code yX9_torn cX9_torn 1 (some .int) ∈ lw_tbl := zchunk_mem (c := 4) (List.mem_of_getElem? (i := 55) rfl)
theorem zcw_X9_count : Cond.code yX9_count cX9_count 2 (some .int) ∈ lw_tbl := zchunk_mem (c := 4) (List.mem_of_getElem? (i := 59) rfl)
theorem zcw_X9_isPromise : Cond.code yX9_isPromise cX9_isPromise 2 (some .boolean) ∈ lw_tbl := zchunk_mem (c := 3) (List.mem_of_getElem? (i := 121) rfl)
theorem zcw_X9_isTick : Cond.code yX9_isTick cX9_isTick 2 (some .boolean) ∈ lw_tbl := zchunk_mem (c := 3) (List.mem_of_getElem? (i := 181) rfl)
theorem zcw_X9_isTry : Cond.code yX9_isTry cX9_isTry 3 (some .boolean) ∈ lw_tbl := zchunk_mem (c := 3) (List.mem_of_getElem? (i := 208) rfl)
theorem zcw_X9_isCondition : Cond.code yX9_isCondition cX9_isCondition 4 (some .boolean) ∈ lw_tbl := zchunk_mem (c := 3) (List.mem_of_getElem? (i := 129) rfl)
theorem zcw_X9_isBits : Cond.code yX9_isBits cX9_isBits 1 (some .boolean) ∈ lw_tbl := zchunk_mem (c := 3) (List.mem_of_getElem? (i := 139) rfl)
theorem zcw_X9_isSide : Cond.code yX9_isSide cX9_isSide 1 (some .boolean) ∈ lw_tbl := zchunk_mem (c := 3) (List.mem_of_getElem? (i := 132) rfl)
theorem zcw_X9_isVerdict : Cond.code yX9_isVerdict cX9_isVerdict 1 (some .boolean) ∈ lw_tbl := zchunk_mem (c := 3) (List.mem_of_getElem? (i := 235) rfl)
theorem zcw_X9_isImage : Cond.code yX9_isImage cX9_isImage 1 (some .boolean) ∈ lw_tbl := zchunk_mem (c := 4) (List.mem_of_getElem? (i := 10) rfl)
theorem zcw_X9_isSheet : Cond.code yX9_isSheet cX9_isSheet 1 (some .boolean) ∈ lw_tbl := zchunk_mem (c := 4) (List.mem_of_getElem? (i := 28) rfl)
theorem zcw_X9_isLane : Cond.code yX9_isLane cX9_isLane 1 (some .boolean) ∈ lw_tbl := zchunk_mem (c := 4) (List.mem_of_getElem? (i := 31) rfl)
theorem zcw_X9_nextSeed : Cond.code yX9_nextSeed cX9_nextSeed 1 (some .int) ∈ lw_tbl := zchunk_mem (c := 3) (List.mem_of_getElem? (i := 196) rfl)
theorem zcw_X9_got : Cond.code yX9_got cX9_got 1 (some .int) ∈ lw_tbl := zchunk_mem (c := 3) (List.mem_of_getElem? (i := 200) rfl)
theorem zcw_X9_howManyImages : Cond.code yX9_howManyImages cX9_howManyImages 3 (some .int) ∈ lw_tbl := zchunk_mem (c := 4) (List.mem_of_getElem? (i := 63) rfl)
theorem zcw_X9_watchOf : Cond.code yX9_watchOf cX9_watchOf 3 (some (.object "PromiseTries$Watch")) ∈ lw_tbl := zchunk_mem (c := 3) (List.mem_of_getElem? (i := 47) rfl)
theorem zcw_X9_watchAnew : Cond.code yX9_watchAnew cX9_watchAnew 2 none ∈ lw_tbl := zchunk_mem (c := 3) (List.mem_of_getElem? (i := 31) rfl)
theorem zcw_X9_isFulfilled : Cond.code yX9_isFulfilled cX9_isFulfilled 3 (some .boolean) ∈ lw_tbl := zchunk_mem (c := 3) (List.mem_of_getElem? (i := 62) rfl)
theorem zcw_X9_howManyFulfil : Cond.code yX9_howManyFulfil cX9_howManyFulfil 4 (some .int) ∈ lw_tbl := zchunk_mem (c := 3) (List.mem_of_getElem? (i := 16) rfl)
theorem zcw_X10_init : Cond.code yX10_init cX10_init 2 none ∈ lw_tbl := zchunk_mem (c := 4) (List.mem_of_getElem? (i := 68) rfl)
theorem zcw_X10_in : Cond.code yX10_in cX10_in 6 (some .boolean) ∈ lw_tbl := zchunk_mem (c := 5) (List.mem_of_getElem? (i := 0) rfl)
theorem zcw_X10_flag : Cond.code yX10_flag cX10_flag 1 (some .int) ∈ lw_tbl := zchunk_mem (c := 5) (List.mem_of_getElem? (i := 58) rfl)
theorem zcw_X10_least : Cond.code yX10_least cX10_least 2 (some .int) ∈ lw_tbl := zchunk_mem (c := 5) (List.mem_of_getElem? (i := 118) rfl)
theorem zcw_X10_greatest : Cond.code yX10_greatest cX10_greatest 2 (some .int) ∈ lw_tbl := zchunk_mem (c := 5) (List.mem_of_getElem? (i := 102) rfl)
theorem zcw_X10_feed : Cond.code yX10_feed cX10_feed 2 (some .int) ∈ lw_tbl := zchunk_mem (c := 4) (List.mem_of_getElem? (i := 236) rfl)
theorem zcw_X10_end : Cond.code yX10_end cX10_end 3 (some .int) ∈ lw_tbl := zchunk_mem (c := 5) (List.mem_of_getElem? (i := 4) rfl)
theorem zcw_X10_requires : Cond.code yX10_requires cX10_requires 3 none ∈ lw_tbl := zchunk_mem (c := 5) (List.mem_of_getElem? (i := 22) rfl)
theorem zcw_X10_byteAt : Cond.code yX10_byteAt cX10_byteAt 2 (some .int) ∈ lw_tbl := zchunk_mem (c := 5) (List.mem_of_getElem? (i := 16) rfl)
theorem zcw_X10_isSignByte : Cond.code yX10_isSignByte cX10_isSignByte 1 (some .boolean) ∈ lw_tbl := zchunk_mem (c := 5) (List.mem_of_getElem? (i := 27) rfl)
theorem zcw_X10_reads : Cond.code yX10_reads cX10_reads 2 none ∈ lw_tbl := zchunk_mem (c := 5) (List.mem_of_getElem? (i := 12) rfl)
theorem zcw_X10_isSign : Cond.code yX10_isSign cX10_isSign 2 (some .boolean) ∈ lw_tbl := zchunk_mem (c := 5) (List.mem_of_getElem? (i := 39) rfl)
theorem zcw_X10_readNumber : Cond.code yX10_readNumber cX10_readNumber 4 (some .int) ∈ lw_tbl := zchunk_mem (c := 5) (List.mem_of_getElem? (i := 99) rfl)
theorem zcw_X10_nests : Cond.code yX10_nests cX10_nests 1 none ∈ lw_tbl := zchunk_mem (c := 5) (List.mem_of_getElem? (i := 55) rfl)
theorem zcw_X10_wires : Cond.code yX10_wires cX10_wires 3 none ∈ lw_tbl := zchunk_mem (c := 5) (List.mem_of_getElem? (i := 74) rfl)
theorem zcw_X10_opensDepth : Cond.code yX10_opensDepth cX10_opensDepth 1 none ∈ lw_tbl := zchunk_mem (c := 5) (List.mem_of_getElem? (i := 66) rfl)
theorem zcw_X10_joinsAnds : Cond.code yX10_joinsAnds cX10_joinsAnds 4 none ∈ lw_tbl := zchunk_mem (c := 5) (List.mem_of_getElem? (i := 79) rfl)
theorem zcw_X10_joinsOrs : Cond.code yX10_joinsOrs cX10_joinsOrs 2 none ∈ lw_tbl := zchunk_mem (c := 5) (List.mem_of_getElem? (i := 83) rfl)
theorem zcw_X10_readOperand : Cond.code yX10_readOperand cX10_readOperand 2 none ∈ lw_tbl := zchunk_mem (c := 5) (List.mem_of_getElem? (i := 70) rfl)
theorem zcw_X10_readCondition : Cond.code yX10_readCondition cX10_readCondition 5 none ∈ lw_tbl := zchunk_mem (c := 5) (List.mem_of_getElem? (i := 62) rfl)
theorem zcw_X10_placesNow : Cond.code yX10_placesNow cX10_placesNow 1 (some .int) ∈ lw_tbl := zchunk_mem (c := 5) (List.mem_of_getElem? (i := 110) rfl)
theorem zcw_X10_takes : Cond.code yX10_takes cX10_takes 3 none ∈ lw_tbl := zchunk_mem (c := 5) (List.mem_of_getElem? (i := 126) rfl)
theorem zcw_X10_sum : Cond.code yX10_sum cX10_sum 2 (some .int) ∈ lw_tbl := zchunk_mem (c := 5) (List.mem_of_getElem? (i := 129) rfl)
theorem zcw_X10_follows : Cond.code yX10_follows cX10_follows 6 none ∈ lw_tbl := zchunk_mem (c := 5) (List.mem_of_getElem? (i := 114) rfl)
theorem zcw_X10_chains : Cond.code yX10_chains cX10_chains 3 none ∈ lw_tbl := zchunk_mem (c := 5) (List.mem_of_getElem? (i := 122) rfl)
theorem zcw_X10_chooses : Cond.code yX10_chooses cX10_chooses 3 none ∈ lw_tbl := zchunk_mem (c := 5) (List.mem_of_getElem? (i := 133) rfl)
theorem zcw_X10_onePlace : Cond.code yX10_onePlace cX10_onePlace 5 none ∈ lw_tbl := zchunk_mem (c := 5) (List.mem_of_getElem? (i := 87) rfl)
theorem zcw_X10_repeats : Cond.code yX10_repeats cX10_repeats 17 none ∈ lw_tbl := zchunk_mem (c := 5) (List.mem_of_getElem? (i := 106) rfl)
theorem zcw_X10_opensSequence : Cond.code yX10_opensSequence cX10_opensSequence 1 none ∈ lw_tbl := zchunk_mem (c := 5) (List.mem_of_getElem? (i := 47) rfl)
theorem zcw_X10_readBegin : Cond.code yX10_readBegin cX10_readBegin 1 none ∈ lw_tbl := zchunk_mem (c := 5) (List.mem_of_getElem? (i := 51) rfl)
theorem zcw_X10_readTimes : Cond.code yX10_readTimes cX10_readTimes 3 none ∈ lw_tbl := zchunk_mem (c := 5) (List.mem_of_getElem? (i := 95) rfl)
theorem zcw_X10_readEnds : Cond.code yX10_readEnds cX10_readEnds 2 none ∈ lw_tbl := zchunk_mem (c := 5) (List.mem_of_getElem? (i := 91) rfl)
theorem zcw_X10_readSequence : Cond.code yX10_readSequence cX10_readSequence 3 none ∈ lw_tbl := zchunk_mem (c := 5) (List.mem_of_getElem? (i := 43) rfl)
theorem zcw_X10_isFulfillable : Cond.code yX10_isFulfillable cX10_isFulfillable 6 (some .boolean) ∈ lw_tbl := zchunk_mem (c := 5) (List.mem_of_getElem? (i := 141) rfl)
theorem zcw_X10_ends : Cond.code yX10_ends cX10_ends 8 none ∈ lw_tbl := zchunk_mem (c := 5) (List.mem_of_getElem? (i := 137) rfl)
theorem zcw_X10_isBegin : Cond.code yX10_isBegin cX10_isBegin 1 (some .boolean) ∈ lw_tbl := zchunk_mem (c := 5) (List.mem_of_getElem? (i := 35) rfl)
theorem zcw_X10_readPromise : Cond.code yX10_readPromise cX10_readPromise 6 none ∈ lw_tbl := zchunk_mem (c := 5) (List.mem_of_getElem? (i := 31) rfl)
theorem zcw_X10_text : Cond.code yX10_text cX10_text 3 (some .int) ∈ lw_tbl := zchunk_mem (c := 5) (List.mem_of_getElem? (i := 8) rfl)
theorem zcw_X10_fault : Cond.code yX10_fault cX10_fault 1 (some .int) ∈ lw_tbl := zchunk_mem (c := 5) (List.mem_of_getElem? (i := 145) rfl)
theorem zcw_X10_isPromise : Cond.code yX10_isPromise cX10_isPromise 2 (some .boolean) ∈ lw_tbl := zchunk_mem (c := 5) (List.mem_of_getElem? (i := 157) rfl)
theorem zcw_X10_isSide : Cond.code yX10_isSide cX10_isSide 1 (some .boolean) ∈ lw_tbl := zchunk_mem (c := 5) (List.mem_of_getElem? (i := 182) rfl)
theorem zcw_X10_areBits : Cond.code yX10_areBits cX10_areBits 1 (some .boolean) ∈ lw_tbl := zchunk_mem (c := 5) (List.mem_of_getElem? (i := 161) rfl)
theorem zcw_X10_fulfilsOne : Cond.code yX10_fulfilsOne cX10_fulfilsOne 4 (some .boolean) ∈ lw_tbl := zchunk_mem (c := 5) (List.mem_of_getElem? (i := 170) rfl)
theorem zcw_X10_fulfilsOff : Cond.code yX10_fulfilsOff cX10_fulfilsOff 3 (some .boolean) ∈ lw_tbl := zchunk_mem (c := 5) (List.mem_of_getElem? (i := 166) rfl)
theorem zcw_X10_findsFulfilling : Cond.code yX10_findsFulfilling cX10_findsFulfilling 8 none ∈ lw_tbl := zchunk_mem (c := 5) (List.mem_of_getElem? (i := 186) rfl)
theorem zcw_X10_nextOf : Cond.code yX10_nextOf cX10_nextOf 7 (some .long) ∈ lw_tbl := zchunk_mem (c := 5) (List.mem_of_getElem? (i := 194) rfl)
theorem zcw_X10_firstOf : Cond.code yX10_firstOf cX10_firstOf 2 (some .long) ∈ lw_tbl := zchunk_mem (c := 5) (List.mem_of_getElem? (i := 190) rfl)
theorem zcw_X10_isEnd : Cond.code yX10_isEnd cX10_isEnd 4 (some .boolean) ∈ lw_tbl := zchunk_mem (c := 5) (List.mem_of_getElem? (i := 198) rfl)
theorem zcw_X10_canEnd : Cond.code yX10_canEnd cX10_canEnd 4 (some .boolean) ∈ lw_tbl := zchunk_mem (c := 5) (List.mem_of_getElem? (i := 206) rfl)
theorem zcw_X10_isConditionAsked : Cond.code yX10_isConditionAsked cX10_isConditionAsked 4 (some .boolean) ∈ lw_tbl := zchunk_mem (c := 5) (List.mem_of_getElem? (i := 153) rfl)
theorem zcw_X10_fulfils : Cond.code yX10_fulfils cX10_fulfils 5 (some .int) ∈ lw_tbl := zchunk_mem (c := 5) (List.mem_of_getElem? (i := 149) rfl)
theorem zcw_X10_fulfilled : Cond.code yX10_fulfilled cX10_fulfilled 6 (some .int) ∈ lw_tbl := zchunk_mem (c := 5) (List.mem_of_getElem? (i := 174) rfl)
theorem zcw_X10_matches : Cond.code yX10_matches cX10_matches 8 (some .int) ∈ lw_tbl := zchunk_mem (c := 5) (List.mem_of_getElem? (i := 179) rfl)
theorem zcw_X10_might : Cond.code yX10_might cX10_might 7 (some .int) ∈ lw_tbl := zchunk_mem (c := 5) (List.mem_of_getElem? (i := 202) rfl)
theorem zcw_X10_promise : Cond.code yX10_promise cX10_promise 4 (some .int) ∈ lw_tbl := zchunk_mem (c := 5) (List.mem_of_getElem? (i := 210) rfl)
theorem zcw_X10_goesOn : Cond.code yX10_goesOn cX10_goesOn 7 none ∈ lw_tbl := zchunk_mem (c := 5) (List.mem_of_getElem? (i := 231) rfl)
theorem zcw_X10_dies : Cond.code yX10_dies cX10_dies 4 none ∈ lw_tbl := zchunk_mem (c := 5) (List.mem_of_getElem? (i := 235) rfl)
theorem zcw_X10_begins : Cond.code yX10_begins cX10_begins 3 none ∈ lw_tbl := zchunk_mem (c := 5) (List.mem_of_getElem? (i := 239) rfl)
theorem zcw_X10_isAny : Cond.code yX10_isAny cX10_isAny 6 (some .boolean) ∈ lw_tbl := zchunk_mem (c := 6) (List.mem_of_getElem? (i := 7) rfl)
theorem zcw_X10_goesThrough : Cond.code yX10_goesThrough cX10_goesThrough 9 none ∈ lw_tbl := zchunk_mem (c := 5) (List.mem_of_getElem? (i := 227) rfl)
theorem zcw_X10_verdictBy : Cond.code yX10_verdictBy cX10_verdictBy 6 (some .int) ∈ lw_tbl := zchunk_mem (c := 6) (List.mem_of_getElem? (i := 3) rfl)
theorem zcw_X10_isTick : Cond.code yX10_isTick cX10_isTick 2 (some .boolean) ∈ lw_tbl := zchunk_mem (c := 5) (List.mem_of_getElem? (i := 223) rfl)
theorem zcw_X10_isTry : Cond.code yX10_isTry cX10_isTry 3 (some .boolean) ∈ lw_tbl := zchunk_mem (c := 5) (List.mem_of_getElem? (i := 219) rfl)
theorem zcw_X10_dutiesFrom : Cond.code yX10_dutiesFrom cX10_dutiesFrom 4 (some .int) ∈ lw_tbl := zchunk_mem (c := 6) (List.mem_of_getElem? (i := 19) rfl)
theorem zcw_X10_verdict : Cond.code yX10_verdict cX10_verdict 3 (some .int) ∈ lw_tbl := zchunk_mem (c := 5) (List.mem_of_getElem? (i := 215) rfl)
theorem zcw_X10_decided : Cond.code yX10_decided cX10_decided 3 (some .int) ∈ lw_tbl := zchunk_mem (c := 6) (List.mem_of_getElem? (i := 11) rfl)
theorem zcw_X10_duties : Cond.code yX10_duties cX10_duties 3 (some .int) ∈ lw_tbl := zchunk_mem (c := 6) (List.mem_of_getElem? (i := 15) rfl)
theorem zcw_X10_duty : Cond.code yX10_duty cX10_duty 7 (some .int) ∈ lw_tbl := zchunk_mem (c := 6) (List.mem_of_getElem? (i := 23) rfl)
theorem zcw_X10_triesOf : Cond.code yX10_triesOf cX10_triesOf 5 (some .int) ∈ lw_tbl := zchunk_mem (c := 6) (List.mem_of_getElem? (i := 32) rfl)
theorem zcw_X10_tries : Cond.code yX10_tries cX10_tries 3 (some .int) ∈ lw_tbl := zchunk_mem (c := 6) (List.mem_of_getElem? (i := 27) rfl)
theorem zcw_X10_first : Cond.code yX10_first cX10_first 4 (some .int) ∈ lw_tbl := zchunk_mem (c := 6) (List.mem_of_getElem? (i := 36) rfl)
theorem zcw_X10_allDuties : Cond.code yX10_allDuties cX10_allDuties 4 (some .int) ∈ lw_tbl := zchunk_mem (c := 6) (List.mem_of_getElem? (i := 45) rfl)
theorem zcw_X10_allTries : Cond.code yX10_allTries cX10_allTries 4 (some .int) ∈ lw_tbl := zchunk_mem (c := 6) (List.mem_of_getElem? (i := 49) rfl)
theorem zcw_X10_rule : Cond.code yX10_rule cX10_rule 2 (some .int) ∈ lw_tbl := zchunk_mem (c := 6) (List.mem_of_getElem? (i := 40) rfl)
theorem zcw_X10_failedBy : Cond.code yX10_failedBy cX10_failedBy 5 (some .int) ∈ lw_tbl := zchunk_mem (c := 6) (List.mem_of_getElem? (i := 57) rfl)
theorem zcw_X10_tick : Cond.code yX10_tick cX10_tick 2 (some .int) ∈ lw_tbl := zchunk_mem (c := 6) (List.mem_of_getElem? (i := 53) rfl)
theorem zcw_X10_bits : Cond.code yX10_bits cX10_bits 2 (some .int) ∈ lw_tbl := zchunk_mem (c := 6) (List.mem_of_getElem? (i := 61) rfl)
theorem zcw_X10_put : Cond.code yX10_put cX10_put 4 (some .int) ∈ lw_tbl := zchunk_mem (c := 6) (List.mem_of_getElem? (i := 65) rfl)
theorem zcw_X10_keeps : Cond.code yX10_keeps cX10_keeps 3 (some .int) ∈ lw_tbl := zchunk_mem (c := 6) (List.mem_of_getElem? (i := 69) rfl)
theorem zcw_X10_gets : Cond.code yX10_gets cX10_gets 1 (some .int) ∈ lw_tbl := zchunk_mem (c := 6) (List.mem_of_getElem? (i := 78) rfl)
theorem zcw_X10_draw : Cond.code yX10_draw cX10_draw 5 (some .int) ∈ lw_tbl := zchunk_mem (c := 6) (List.mem_of_getElem? (i := 73) rfl)
theorem zcw_X10_keep : Cond.code yX10_keep cX10_keep 4 (some .int) ∈ lw_tbl := zchunk_mem (c := 6) (List.mem_of_getElem? (i := 83) rfl)
theorem zcw_X10_back : Cond.code yX10_back cX10_back 3 (some .int) ∈ lw_tbl := zchunk_mem (c := 6) (List.mem_of_getElem? (i := 87) rfl)
theorem zcw_X10_isSheet : Cond.code yX10_isSheet cX10_isSheet 2 (some .boolean) ∈ lw_tbl := zchunk_mem (c := 6) (List.mem_of_getElem? (i := 94) rfl)
theorem zcw_X10_sheet : Cond.code yX10_sheet cX10_sheet 5 (some .int) ∈ lw_tbl := zchunk_mem (c := 6) (List.mem_of_getElem? (i := 91) rfl)
theorem zcw_X10_lay : Cond.code yX10_lay cX10_lay 4 (some .int) ∈ lw_tbl := zchunk_mem (c := 6) (List.mem_of_getElem? (i := 99) rfl)
theorem zcw_X10_run : Cond.code yX10_run cX10_run 8 (some .int) ∈ lw_tbl := zchunk_mem (c := 6) (List.mem_of_getElem? (i := 104) rfl)
theorem zcw_X10_torn : Cond.code yX10_torn cX10_torn 1 (some .int) ∈ lw_tbl := zchunk_mem (c := 6) (List.mem_of_getElem? (i := 108) rfl)
theorem zcw_X10_count : Cond.code yX10_count cX10_count 2 (some .int) ∈ lw_tbl := zchunk_mem (c := 6) (List.mem_of_getElem? (i := 112) rfl)
theorem zcw_J13_bitCount_95d88 : Cond.code yJ13_bitCount_95d88 cJ13_bitCount_95d88 2 (some .int) ∈ lw_tbl := zchunk_mem (c := 3) (List.mem_of_getElem? (i := 19) rfl)
theorem zcw_max : Cond.code Lib.Math.max.name Lib.Math.max.code 2 (some .int) ∈ lw_tbl := zchunk_mem (c := 2) (List.mem_of_getElem? (i := 217) rfl)
theorem zcw_min : Cond.code Lib.Math.min.name Lib.Math.min.code 2 (some .int) ∈ lw_tbl := zchunk_mem (c := 2) (List.mem_of_getElem? (i := 237) rfl)
theorem zcw_obj : Cond.code Lib.objectInit ⟨#[0xb1]⟩ 1 none ∈ lw_tbl := zchunk_mem (c := 1) (List.mem_of_getElem? (i := 22) rfl)
set_option maxRecDepth 20000 in
theorem zcw : ∀ q ∈ zNl, Cond.code q.1 q.2.1 q.2.2.1 q.2.2.2 ∈ lw_tbl := by
  unfold zNl
  refine List.forall_mem_cons.mpr ⟨zcw_X0_init, ?_⟩
  refine List.forall_mem_cons.mpr ⟨zcw_X0_begin, ?_⟩
  refine List.forall_mem_cons.mpr ⟨zcw_X0_condition, ?_⟩
  refine List.forall_mem_cons.mpr ⟨zcw_X0_chainTwo, ?_⟩
  refine List.forall_mem_cons.mpr ⟨zcw_X0_chooseOfTwo, ?_⟩
  refine List.forall_mem_cons.mpr ⟨zcw_X0_repeat, ?_⟩
  refine List.forall_mem_cons.mpr ⟨zcw_X0_chainCopies, ?_⟩
  refine List.forall_mem_cons.mpr ⟨zcw_X0_finish, ?_⟩
  refine List.forall_mem_cons.mpr ⟨zcw_X1_init, ?_⟩
  refine List.forall_mem_cons.mpr ⟨zcw_X1_sideOf, ?_⟩
  refine List.forall_mem_cons.mpr ⟨zcw_X1_isPutOffBy, ?_⟩
  refine List.forall_mem_cons.mpr ⟨zcw_X2_init, ?_⟩
  refine List.forall_mem_cons.mpr ⟨zcw_X2_readAll, ?_⟩
  refine List.forall_mem_cons.mpr ⟨zcw_X2_readPromise, ?_⟩
  refine List.forall_mem_cons.mpr ⟨zcw_X2_readOff, ?_⟩
  refine List.forall_mem_cons.mpr ⟨zcw_X2_readChoice, ?_⟩
  refine List.forall_mem_cons.mpr ⟨zcw_X2_readChain, ?_⟩
  refine List.forall_mem_cons.mpr ⟨zcw_X2_readRepeated, ?_⟩
  refine List.forall_mem_cons.mpr ⟨zcw_X2_readNumber, ?_⟩
  refine List.forall_mem_cons.mpr ⟨zcw_X2_readPart, ?_⟩
  refine List.forall_mem_cons.mpr ⟨zcw_X2_readCondition, ?_⟩
  refine List.forall_mem_cons.mpr ⟨zcw_X2_readPlain, ?_⟩
  refine List.forall_mem_cons.mpr ⟨zcw_X2_readAnyOf, ?_⟩
  refine List.forall_mem_cons.mpr ⟨zcw_X2_readAllOf, ?_⟩
  refine List.forall_mem_cons.mpr ⟨zcw_X3_init, ?_⟩
  refine List.forall_mem_cons.mpr ⟨zcw_X3_clear, ?_⟩
  refine List.forall_mem_cons.mpr ⟨zcw_X3_addCondition, ?_⟩
  refine List.forall_mem_cons.mpr ⟨zcw_X3_link, ?_⟩
  refine List.forall_mem_cons.mpr ⟨zcw_X3_copyBlock, ?_⟩
  refine List.forall_mem_cons.mpr ⟨zcw_X3_findUseful, ?_⟩
  refine List.forall_mem_cons.mpr ⟨zcw_X3_openTo, ?_⟩
  refine List.forall_mem_cons.mpr ⟨zcw_X3_after, ?_⟩
  refine List.forall_mem_cons.mpr ⟨zcw_X3_walk, ?_⟩
  refine List.forall_mem_cons.mpr ⟨zcw_X3_hasEnded, ?_⟩
  refine List.forall_mem_cons.mpr ⟨zcw_X3_goesOn, ?_⟩
  refine List.forall_mem_cons.mpr ⟨zcw_X4_init, ?_⟩
  refine List.forall_mem_cons.mpr ⟨zcw_X4_renew, ?_⟩
  refine List.forall_mem_cons.mpr ⟨zcw_X4_tearAt, ?_⟩
  refine List.forall_mem_cons.mpr ⟨zcw_X4_setCell, ?_⟩
  refine List.forall_mem_cons.mpr ⟨zcw_X5_init, ?_⟩
  refine List.forall_mem_cons.mpr ⟨zcw_X5_begin, ?_⟩
  refine List.forall_mem_cons.mpr ⟨zcw_X5_refuse, ?_⟩
  refine List.forall_mem_cons.mpr ⟨zcw_X5_advance, ?_⟩
  refine List.forall_mem_cons.mpr ⟨zcw_X5_advanceNumber, ?_⟩
  refine List.forall_mem_cons.mpr ⟨zcw_X5_isFigure, ?_⟩
  refine List.forall_mem_cons.mpr ⟨zcw_X5_isSign, ?_⟩
  refine List.forall_mem_cons.mpr ⟨zcw_X5_beginsSequence, ?_⟩
  refine List.forall_mem_cons.mpr ⟨zcw_X6_init, ?_⟩
  refine List.forall_mem_cons.mpr ⟨zcw_X6_add, ?_⟩
  refine List.forall_mem_cons.mpr ⟨zcw_X6_become, ?_⟩
  refine List.forall_mem_cons.mpr ⟨zcw_X7_init, ?_⟩
  refine List.forall_mem_cons.mpr ⟨zcw_X7_clear, ?_⟩
  refine List.forall_mem_cons.mpr ⟨zcw_X7_pushWire, ?_⟩
  refine List.forall_mem_cons.mpr ⟨zcw_X7_wordOfWire, ?_⟩
  refine List.forall_mem_cons.mpr ⟨zcw_X7_negate, ?_⟩
  refine List.forall_mem_cons.mpr ⟨zcw_X7_joinTwo, ?_⟩
  refine List.forall_mem_cons.mpr ⟨zcw_X7_drop, ?_⟩
  refine List.forall_mem_cons.mpr ⟨zcw_X7_moveTop, ?_⟩
  refine List.forall_mem_cons.mpr ⟨zcw_X8_init, ?_⟩
  refine List.forall_mem_cons.mpr ⟨zcw_X8_restart, ?_⟩
  refine List.forall_mem_cons.mpr ⟨zcw_X8_catchUp, ?_⟩
  refine List.forall_mem_cons.mpr ⟨zcw_X8_takeIn, ?_⟩
  refine List.forall_mem_cons.mpr ⟨zcw_X8_moveDuties, ?_⟩
  refine List.forall_mem_cons.mpr ⟨zcw_X8_moveTries, ?_⟩
  refine List.forall_mem_cons.mpr ⟨zcw_X8_beginDuty, ?_⟩
  refine List.forall_mem_cons.mpr ⟨zcw_X8_settleDuty, ?_⟩
  refine List.forall_mem_cons.mpr ⟨zcw_X8_judgeTries, ?_⟩
  refine List.forall_mem_cons.mpr ⟨zcw_X8_judge, ?_⟩
  refine List.forall_mem_cons.mpr ⟨zcw_X8_howMany, ?_⟩
  refine List.forall_mem_cons.mpr ⟨zcw_X8_earliest, ?_⟩
  refine List.forall_mem_cons.mpr ⟨zcw_X8_failedBy, ?_⟩
  refine List.forall_mem_cons.mpr ⟨zcw_X8_allDuties, ?_⟩
  refine List.forall_mem_cons.mpr ⟨zcw_X8_dutyTick, ?_⟩
  refine List.forall_mem_cons.mpr ⟨zcw_X8_dutyState, ?_⟩
  refine List.forall_mem_cons.mpr ⟨zcw_X9_init, ?_⟩
  refine List.forall_mem_cons.mpr ⟨zcw_X9_feed, ?_⟩
  refine List.forall_mem_cons.mpr ⟨zcw_X9_end, ?_⟩
  refine List.forall_mem_cons.mpr ⟨zcw_X9_text, ?_⟩
  refine List.forall_mem_cons.mpr ⟨zcw_X9_fault, ?_⟩
  refine List.forall_mem_cons.mpr ⟨zcw_X9_rule, ?_⟩
  refine List.forall_mem_cons.mpr ⟨zcw_X9_promise, ?_⟩
  refine List.forall_mem_cons.mpr ⟨zcw_X9_fulfils, ?_⟩
  refine List.forall_mem_cons.mpr ⟨zcw_X9_fulfilled, ?_⟩
  refine List.forall_mem_cons.mpr ⟨zcw_X9_matches, ?_⟩
  refine List.forall_mem_cons.mpr ⟨zcw_X9_might, ?_⟩
  refine List.forall_mem_cons.mpr ⟨zcw_X9_tick, ?_⟩
  refine List.forall_mem_cons.mpr ⟨zcw_X9_bits, ?_⟩
  refine List.forall_mem_cons.mpr ⟨zcw_X9_put, ?_⟩
  refine List.forall_mem_cons.mpr ⟨zcw_X9_keeps, ?_⟩
  refine List.forall_mem_cons.mpr ⟨zcw_X9_draw, ?_⟩
  refine List.forall_mem_cons.mpr ⟨zcw_X9_verdict, ?_⟩
  refine List.forall_mem_cons.mpr ⟨zcw_X9_decided, ?_⟩
  refine List.forall_mem_cons.mpr ⟨zcw_X9_duties, ?_⟩
  refine List.forall_mem_cons.mpr ⟨zcw_X9_duty, ?_⟩
  refine List.forall_mem_cons.mpr ⟨zcw_X9_tries, ?_⟩
  refine List.forall_mem_cons.mpr ⟨zcw_X9_first, ?_⟩
  refine List.forall_mem_cons.mpr ⟨zcw_X9_keep, ?_⟩
  refine List.forall_mem_cons.mpr ⟨zcw_X9_back, ?_⟩
  refine List.forall_mem_cons.mpr ⟨zcw_X9_sheet, ?_⟩
  refine List.forall_mem_cons.mpr ⟨zcw_X9_lay, ?_⟩
  refine List.forall_mem_cons.mpr ⟨zcw_X9_run, ?_⟩
  refine List.forall_mem_cons.mpr ⟨zcw_X9_torn, ?_⟩
  refine List.forall_mem_cons.mpr ⟨zcw_X9_count, ?_⟩
  refine List.forall_mem_cons.mpr ⟨zcw_X9_isPromise, ?_⟩
  refine List.forall_mem_cons.mpr ⟨zcw_X9_isTick, ?_⟩
  refine List.forall_mem_cons.mpr ⟨zcw_X9_isTry, ?_⟩
  refine List.forall_mem_cons.mpr ⟨zcw_X9_isCondition, ?_⟩
  refine List.forall_mem_cons.mpr ⟨zcw_X9_isBits, ?_⟩
  refine List.forall_mem_cons.mpr ⟨zcw_X9_isSide, ?_⟩
  refine List.forall_mem_cons.mpr ⟨zcw_X9_isVerdict, ?_⟩
  refine List.forall_mem_cons.mpr ⟨zcw_X9_isImage, ?_⟩
  refine List.forall_mem_cons.mpr ⟨zcw_X9_isSheet, ?_⟩
  refine List.forall_mem_cons.mpr ⟨zcw_X9_isLane, ?_⟩
  refine List.forall_mem_cons.mpr ⟨zcw_X9_nextSeed, ?_⟩
  refine List.forall_mem_cons.mpr ⟨zcw_X9_got, ?_⟩
  refine List.forall_mem_cons.mpr ⟨zcw_X9_howManyImages, ?_⟩
  refine List.forall_mem_cons.mpr ⟨zcw_X9_watchOf, ?_⟩
  refine List.forall_mem_cons.mpr ⟨zcw_X9_watchAnew, ?_⟩
  refine List.forall_mem_cons.mpr ⟨zcw_X9_isFulfilled, ?_⟩
  refine List.forall_mem_cons.mpr ⟨zcw_X9_howManyFulfil, ?_⟩
  refine List.forall_mem_cons.mpr ⟨zcw_X10_init, ?_⟩
  refine List.forall_mem_cons.mpr ⟨zcw_X10_in, ?_⟩
  refine List.forall_mem_cons.mpr ⟨zcw_X10_flag, ?_⟩
  refine List.forall_mem_cons.mpr ⟨zcw_X10_least, ?_⟩
  refine List.forall_mem_cons.mpr ⟨zcw_X10_greatest, ?_⟩
  refine List.forall_mem_cons.mpr ⟨zcw_X10_feed, ?_⟩
  refine List.forall_mem_cons.mpr ⟨zcw_X10_end, ?_⟩
  refine List.forall_mem_cons.mpr ⟨zcw_X10_requires, ?_⟩
  refine List.forall_mem_cons.mpr ⟨zcw_X10_byteAt, ?_⟩
  refine List.forall_mem_cons.mpr ⟨zcw_X10_isSignByte, ?_⟩
  refine List.forall_mem_cons.mpr ⟨zcw_X10_reads, ?_⟩
  refine List.forall_mem_cons.mpr ⟨zcw_X10_isSign, ?_⟩
  refine List.forall_mem_cons.mpr ⟨zcw_X10_readNumber, ?_⟩
  refine List.forall_mem_cons.mpr ⟨zcw_X10_nests, ?_⟩
  refine List.forall_mem_cons.mpr ⟨zcw_X10_wires, ?_⟩
  refine List.forall_mem_cons.mpr ⟨zcw_X10_opensDepth, ?_⟩
  refine List.forall_mem_cons.mpr ⟨zcw_X10_joinsAnds, ?_⟩
  refine List.forall_mem_cons.mpr ⟨zcw_X10_joinsOrs, ?_⟩
  refine List.forall_mem_cons.mpr ⟨zcw_X10_readOperand, ?_⟩
  refine List.forall_mem_cons.mpr ⟨zcw_X10_readCondition, ?_⟩
  refine List.forall_mem_cons.mpr ⟨zcw_X10_placesNow, ?_⟩
  refine List.forall_mem_cons.mpr ⟨zcw_X10_takes, ?_⟩
  refine List.forall_mem_cons.mpr ⟨zcw_X10_sum, ?_⟩
  refine List.forall_mem_cons.mpr ⟨zcw_X10_follows, ?_⟩
  refine List.forall_mem_cons.mpr ⟨zcw_X10_chains, ?_⟩
  refine List.forall_mem_cons.mpr ⟨zcw_X10_chooses, ?_⟩
  refine List.forall_mem_cons.mpr ⟨zcw_X10_onePlace, ?_⟩
  refine List.forall_mem_cons.mpr ⟨zcw_X10_repeats, ?_⟩
  refine List.forall_mem_cons.mpr ⟨zcw_X10_opensSequence, ?_⟩
  refine List.forall_mem_cons.mpr ⟨zcw_X10_readBegin, ?_⟩
  refine List.forall_mem_cons.mpr ⟨zcw_X10_readTimes, ?_⟩
  refine List.forall_mem_cons.mpr ⟨zcw_X10_readEnds, ?_⟩
  refine List.forall_mem_cons.mpr ⟨zcw_X10_readSequence, ?_⟩
  refine List.forall_mem_cons.mpr ⟨zcw_X10_isFulfillable, ?_⟩
  refine List.forall_mem_cons.mpr ⟨zcw_X10_ends, ?_⟩
  refine List.forall_mem_cons.mpr ⟨zcw_X10_isBegin, ?_⟩
  refine List.forall_mem_cons.mpr ⟨zcw_X10_readPromise, ?_⟩
  refine List.forall_mem_cons.mpr ⟨zcw_X10_text, ?_⟩
  refine List.forall_mem_cons.mpr ⟨zcw_X10_fault, ?_⟩
  refine List.forall_mem_cons.mpr ⟨zcw_X10_isPromise, ?_⟩
  refine List.forall_mem_cons.mpr ⟨zcw_X10_isSide, ?_⟩
  refine List.forall_mem_cons.mpr ⟨zcw_X10_areBits, ?_⟩
  refine List.forall_mem_cons.mpr ⟨zcw_X10_fulfilsOne, ?_⟩
  refine List.forall_mem_cons.mpr ⟨zcw_X10_fulfilsOff, ?_⟩
  refine List.forall_mem_cons.mpr ⟨zcw_X10_findsFulfilling, ?_⟩
  refine List.forall_mem_cons.mpr ⟨zcw_X10_nextOf, ?_⟩
  refine List.forall_mem_cons.mpr ⟨zcw_X10_firstOf, ?_⟩
  refine List.forall_mem_cons.mpr ⟨zcw_X10_isEnd, ?_⟩
  refine List.forall_mem_cons.mpr ⟨zcw_X10_canEnd, ?_⟩
  refine List.forall_mem_cons.mpr ⟨zcw_X10_isConditionAsked, ?_⟩
  refine List.forall_mem_cons.mpr ⟨zcw_X10_fulfils, ?_⟩
  refine List.forall_mem_cons.mpr ⟨zcw_X10_fulfilled, ?_⟩
  refine List.forall_mem_cons.mpr ⟨zcw_X10_matches, ?_⟩
  refine List.forall_mem_cons.mpr ⟨zcw_X10_might, ?_⟩
  refine List.forall_mem_cons.mpr ⟨zcw_X10_promise, ?_⟩
  refine List.forall_mem_cons.mpr ⟨zcw_X10_goesOn, ?_⟩
  refine List.forall_mem_cons.mpr ⟨zcw_X10_dies, ?_⟩
  refine List.forall_mem_cons.mpr ⟨zcw_X10_begins, ?_⟩
  refine List.forall_mem_cons.mpr ⟨zcw_X10_isAny, ?_⟩
  refine List.forall_mem_cons.mpr ⟨zcw_X10_goesThrough, ?_⟩
  refine List.forall_mem_cons.mpr ⟨zcw_X10_verdictBy, ?_⟩
  refine List.forall_mem_cons.mpr ⟨zcw_X10_isTick, ?_⟩
  refine List.forall_mem_cons.mpr ⟨zcw_X10_isTry, ?_⟩
  refine List.forall_mem_cons.mpr ⟨zcw_X10_dutiesFrom, ?_⟩
  refine List.forall_mem_cons.mpr ⟨zcw_X10_verdict, ?_⟩
  refine List.forall_mem_cons.mpr ⟨zcw_X10_decided, ?_⟩
  refine List.forall_mem_cons.mpr ⟨zcw_X10_duties, ?_⟩
  refine List.forall_mem_cons.mpr ⟨zcw_X10_duty, ?_⟩
  refine List.forall_mem_cons.mpr ⟨zcw_X10_triesOf, ?_⟩
  refine List.forall_mem_cons.mpr ⟨zcw_X10_tries, ?_⟩
  refine List.forall_mem_cons.mpr ⟨zcw_X10_first, ?_⟩
  refine List.forall_mem_cons.mpr ⟨zcw_X10_allDuties, ?_⟩
  refine List.forall_mem_cons.mpr ⟨zcw_X10_allTries, ?_⟩
  refine List.forall_mem_cons.mpr ⟨zcw_X10_rule, ?_⟩
  refine List.forall_mem_cons.mpr ⟨zcw_X10_failedBy, ?_⟩
  refine List.forall_mem_cons.mpr ⟨zcw_X10_tick, ?_⟩
  refine List.forall_mem_cons.mpr ⟨zcw_X10_bits, ?_⟩
  refine List.forall_mem_cons.mpr ⟨zcw_X10_put, ?_⟩
  refine List.forall_mem_cons.mpr ⟨zcw_X10_keeps, ?_⟩
  refine List.forall_mem_cons.mpr ⟨zcw_X10_gets, ?_⟩
  refine List.forall_mem_cons.mpr ⟨zcw_X10_draw, ?_⟩
  refine List.forall_mem_cons.mpr ⟨zcw_X10_keep, ?_⟩
  refine List.forall_mem_cons.mpr ⟨zcw_X10_back, ?_⟩
  refine List.forall_mem_cons.mpr ⟨zcw_X10_isSheet, ?_⟩
  refine List.forall_mem_cons.mpr ⟨zcw_X10_sheet, ?_⟩
  refine List.forall_mem_cons.mpr ⟨zcw_X10_lay, ?_⟩
  refine List.forall_mem_cons.mpr ⟨zcw_X10_run, ?_⟩
  refine List.forall_mem_cons.mpr ⟨zcw_X10_torn, ?_⟩
  refine List.forall_mem_cons.mpr ⟨zcw_X10_count, ?_⟩
  refine List.forall_mem_cons.mpr ⟨zcw_J13_bitCount_95d88, ?_⟩
  exact fun _ h => absurd h List.not_mem_nil
def zmw : List (List Nat) := [[1005], [1005], [1005], [1005], [1005], [1005], [1005], [1005], [1008], [1008], [1008], [1002], [1002], [1002], [1002], [1002], [1002], [1002], [1002], [1002], [1002], [1002], [1002], [1002], [1006], [1006], [1006], [1006], [1006], [1006], [1006], [1006], [1006], [1006], [1006], [1010], [1010], [1010], [1010], [1003], [1003], [1003], [1003], [1003], [1003], [1003], [1003], [1007], [1007], [1007], [1004], [1004], [1004], [1004], [1004], [1004], [1004], [1004], [1009], [1009], [1009], [1009], [1009], [1009], [1009], [1009], [1009], [1009], [1009], [1009], [1009], [1009], [1009], [1009], [1001], [1001], [1001], [1001], [1001], [1001], [1001], [1001], [1001], [1001], [1001], [1001], [1001], [1001], [1001], [1001], [1001], [1001], [1001], [1001], [1001], [1001], [1001], [1001], [1001], [1001], [1001], [1001], [1001], [1001], [1001], [1001], [1001], [1001], [1001], [1001], [1001], [1001], [1001], [1001], [1001], [1001], [1001], [1001], [1001], [1001], [1011], [1011], [1011], [1011], [1011], [1011], [1011], [1011], [1011], [1011], [1011], [1011], [1011], [1011], [1011], [1011], [1011], [1011], [1011], [1011], [1011], [1011], [1011], [1011], [1011], [1011], [1011], [1011], [1011], [1011], [1011], [1011], [1011], [1011], [1011], [1011], [1011], [1011], [1011], [1011], [1011], [1011], [1011], [1011], [1011], [1011], [1011], [1011], [1011], [1011], [1011], [1011], [1011], [1011], [1011], [1011], [1011], [1011], [1011], [1011], [1011], [1011], [1011], [1011], [1011], [1011], [1011], [1011], [1011], [1011], [1011], [1011], [1011], [1011], [1011], [1011], [1011], [1011], [1011], [1011], [1011], [1011], [1011], [1011], [1011], [1011], [1011], [1011], [1011], [1013]]
set_option maxRecDepth 100000 in
theorem zmk_ok : ((List.range 210).zip zmw).all (fun q => zmk q.1 q.2) = true := by decide +kernel
