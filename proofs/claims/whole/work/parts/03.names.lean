theorem FK0_0 : FK 0 0 "RopeDance$Evening" "squares" "[LRopeDance$Square;" 2 := ⟨T0, 3, ⟨rfl, xgu iw0, ⟨t0, tok0⟩, n0⟩, rfl, by decide, rfl, rfl⟩
theorem FK0_1 : FK 0 1 "RopeDance$Evening" "minute" "I" 0 := ⟨T0, 3, ⟨rfl, xgu iw0, ⟨t0, tok0⟩, n0⟩, rfl, by decide, rfl, rfl⟩
theorem FK0_2 : FK 0 2 "RopeDance$Evening" "paid" "I" 0 := ⟨T0, 3, ⟨rfl, xgu iw0, ⟨t0, tok0⟩, n0⟩, rfl, by decide, rfl, rfl⟩
theorem FK1_0 : FK 1 0 "RopeDance$Memory" "length" "I" 0 := ⟨T1, 5, ⟨rfl, xgu iw1, ⟨t1, tok1⟩, n1⟩, rfl, by decide, rfl, rfl⟩
theorem FK1_1 : FK 1 1 "RopeDance$Memory" "next" "I" 0 := ⟨T1, 5, ⟨rfl, xgu iw1, ⟨t1, tok1⟩, n1⟩, rfl, by decide, rfl, rfl⟩
theorem FK1_2 : FK 1 2 "RopeDance$Memory" "ahead" "[[I" 2 := ⟨T1, 5, ⟨rfl, xgu iw1, ⟨t1, tok1⟩, n1⟩, rfl, by decide, rfl, rfl⟩
theorem FK1_3 : FK 1 3 "RopeDance$Memory" "slots" "[[I" 2 := ⟨T1, 5, ⟨rfl, xgu iw1, ⟨t1, tok1⟩, n1⟩, rfl, by decide, rfl, rfl⟩
theorem FK1_4 : FK 1 4 "RopeDance$Memory" "held" "[Z" 2 := ⟨T1, 5, ⟨rfl, xgu iw1, ⟨t1, tok1⟩, n1⟩, rfl, by decide, rfl, rfl⟩
theorem FK2_0 : FK 2 0 "RopeDance$Reader" "fault" "I" 0 := ⟨T2, 10, ⟨rfl, xgu iw2, ⟨t2, tok2⟩, n2⟩, rfl, by decide, rfl, rfl⟩
theorem FK2_1 : FK 2 1 "RopeDance$Reader" "place" "I" 0 := ⟨T2, 10, ⟨rfl, xgu iw2, ⟨t2, tok2⟩, n2⟩, rfl, by decide, rfl, rfl⟩
theorem FK2_2 : FK 2 2 "RopeDance$Reader" "tape" "LRopeDance$Tape;" 2 := ⟨T2, 10, ⟨rfl, xgu iw2, ⟨t2, tok2⟩, n2⟩, rfl, by decide, rfl, rfl⟩
theorem FK2_3 : FK 2 3 "RopeDance$Reader" "text" "LRopeDance$Text;" 3 := ⟨T2, 10, ⟨rfl, xgu iw2, ⟨t2, tok2⟩, n2⟩, rfl, by decide, rfl, rfl⟩
theorem FK2_4 : FK 2 4 "RopeDance$Reader" "doubt" "I" 0 := ⟨T2, 10, ⟨rfl, xgu iw2, ⟨t2, tok2⟩, n2⟩, rfl, by decide, rfl, rfl⟩
theorem FK2_5 : FK 2 5 "RopeDance$Reader" "doubtPlace" "I" 0 := ⟨T2, 10, ⟨rfl, xgu iw2, ⟨t2, tok2⟩, n2⟩, rfl, by decide, rfl, rfl⟩
theorem FK2_6 : FK 2 6 "RopeDance$Reader" "waiting" "[I" 2 := ⟨T2, 10, ⟨rfl, xgu iw2, ⟨t2, tok2⟩, n2⟩, rfl, by decide, rfl, rfl⟩
theorem FK2_7 : FK 2 7 "RopeDance$Reader" "waits" "I" 0 := ⟨T2, 10, ⟨rfl, xgu iw2, ⟨t2, tok2⟩, n2⟩, rfl, by decide, rfl, rfl⟩
theorem FK2_8 : FK 2 8 "RopeDance$Reader" "open" "I" 0 := ⟨T2, 10, ⟨rfl, xgu iw2, ⟨t2, tok2⟩, n2⟩, rfl, by decide, rfl, rfl⟩
theorem FK2_9 : FK 2 9 "RopeDance$Reader" "made" "LRopeDance$Square;" 2 := ⟨T2, 10, ⟨rfl, xgu iw2, ⟨t2, tok2⟩, n2⟩, rfl, by decide, rfl, rfl⟩
theorem FK3_0 : FK 3 0 "RopeDance$Row" "length" "I" 0 := ⟨T3, 4, ⟨rfl, xgu iw3, ⟨t3, tok3⟩, n3⟩, rfl, by decide, rfl, rfl⟩
theorem FK3_1 : FK 3 1 "RopeDance$Row" "table" "LRopeDance$Table;" 2 := ⟨T3, 4, ⟨rfl, xgu iw3, ⟨t3, tok3⟩, n3⟩, rfl, by decide, rfl, rfl⟩
theorem FK3_2 : FK 3 2 "RopeDance$Row" "whats" "[I" 2 := ⟨T3, 4, ⟨rfl, xgu iw3, ⟨t3, tok3⟩, n3⟩, rfl, by decide, rfl, rfl⟩
theorem FK3_3 : FK 3 3 "RopeDance$Row" "twists" "[I" 2 := ⟨T3, 4, ⟨rfl, xgu iw3, ⟨t3, tok3⟩, n3⟩, rfl, by decide, rfl, rfl⟩
theorem FK4_0 : FK 4 0 "RopeDance$Search" "found" "I" 0 := ⟨T4, 5, ⟨rfl, xgu iw4, ⟨t4, tok4⟩, n4⟩, rfl, by decide, rfl, rfl⟩
theorem FK4_1 : FK 4 1 "RopeDance$Search" "start" "I" 0 := ⟨T4, 5, ⟨rfl, xgu iw4, ⟨t4, tok4⟩, n4⟩, rfl, by decide, rfl, rfl⟩
theorem FK4_2 : FK 4 2 "RopeDance$Search" "queue" "[I" 2 := ⟨T4, 5, ⟨rfl, xgu iw4, ⟨t4, tok4⟩, n4⟩, rfl, by decide, rfl, rfl⟩
theorem FK4_3 : FK 4 3 "RopeDance$Search" "madeOf" "[I" 2 := ⟨T4, 5, ⟨rfl, xgu iw4, ⟨t4, tok4⟩, n4⟩, rfl, by decide, rfl, rfl⟩
theorem FK4_4 : FK 4 4 "RopeDance$Search" "tried" "LRopeDance$Square;" 2 := ⟨T4, 5, ⟨rfl, xgu iw4, ⟨t4, tok4⟩, n4⟩, rfl, by decide, rfl, rfl⟩
theorem FK5_0 : FK 5 0 "RopeDance$Square" "p" "I" 0 := ⟨T5, 4, ⟨rfl, xgu iw5, ⟨t5, tok5⟩, n5⟩, rfl, by decide, rfl, rfl⟩
theorem FK5_1 : FK 5 1 "RopeDance$Square" "q" "I" 0 := ⟨T5, 4, ⟨rfl, xgu iw5, ⟨t5, tok5⟩, n5⟩, rfl, by decide, rfl, rfl⟩
theorem FK5_2 : FK 5 2 "RopeDance$Square" "tired" "I" 0 := ⟨T5, 4, ⟨rfl, xgu iw5, ⟨t5, tok5⟩, n5⟩, rfl, by decide, rfl, rfl⟩
theorem FK5_3 : FK 5 3 "RopeDance$Square" "called" "I" 0 := ⟨T5, 4, ⟨rfl, xgu iw5, ⟨t5, tok5⟩, n5⟩, rfl, by decide, rfl, rfl⟩
theorem FK6_0 : FK 6 0 "RopeDance$Table" "a" "I" 0 := ⟨T6, 4, ⟨rfl, xgu iw6, ⟨t6, tok6⟩, n6⟩, rfl, by decide, rfl, rfl⟩
theorem FK6_1 : FK 6 1 "RopeDance$Table" "b" "I" 0 := ⟨T6, 4, ⟨rfl, xgu iw6, ⟨t6, tok6⟩, n6⟩, rfl, by decide, rfl, rfl⟩
theorem FK6_2 : FK 6 2 "RopeDance$Table" "c" "I" 0 := ⟨T6, 4, ⟨rfl, xgu iw6, ⟨t6, tok6⟩, n6⟩, rfl, by decide, rfl, rfl⟩
theorem FK6_3 : FK 6 3 "RopeDance$Table" "d" "I" 0 := ⟨T6, 4, ⟨rfl, xgu iw6, ⟨t6, tok6⟩, n6⟩, rfl, by decide, rfl, rfl⟩
theorem FK7_0 : FK 7 0 "RopeDance$Tape" "length" "I" 0 := ⟨T7, 11, ⟨rfl, xgu iw7, ⟨t7, tok7⟩, n7⟩, rfl, by decide, rfl, rfl⟩
theorem FK7_1 : FK 7 1 "RopeDance$Tape" "token" "I" 0 := ⟨T7, 11, ⟨rfl, xgu iw7, ⟨t7, tok7⟩, n7⟩, rfl, by decide, rfl, rfl⟩
theorem FK7_2 : FK 7 2 "RopeDance$Tape" "kind" "I" 0 := ⟨T7, 11, ⟨rfl, xgu iw7, ⟨t7, tok7⟩, n7⟩, rfl, by decide, rfl, rfl⟩
theorem FK7_3 : FK 7 3 "RopeDance$Tape" "place" "I" 0 := ⟨T7, 11, ⟨rfl, xgu iw7, ⟨t7, tok7⟩, n7⟩, rfl, by decide, rfl, rfl⟩
theorem FK7_4 : FK 7 4 "RopeDance$Tape" "value" "I" 0 := ⟨T7, 11, ⟨rfl, xgu iw7, ⟨t7, tok7⟩, n7⟩, rfl, by decide, rfl, rfl⟩
theorem FK7_5 : FK 7 5 "RopeDance$Tape" "name" "J" 1 := ⟨T7, 11, ⟨rfl, xgu iw7, ⟨t7, tok7⟩, n7⟩, rfl, by decide, rfl, rfl⟩
theorem FK7_6 : FK 7 6 "RopeDance$Tape" "bytes" "[B" 2 := ⟨T7, 11, ⟨rfl, xgu iw7, ⟨t7, tok7⟩, n7⟩, rfl, by decide, rfl, rfl⟩
theorem FK7_7 : FK 7 7 "RopeDance$Tape" "kinds" "[I" 2 := ⟨T7, 11, ⟨rfl, xgu iw7, ⟨t7, tok7⟩, n7⟩, rfl, by decide, rfl, rfl⟩
theorem FK7_8 : FK 7 8 "RopeDance$Tape" "places" "[I" 2 := ⟨T7, 11, ⟨rfl, xgu iw7, ⟨t7, tok7⟩, n7⟩, rfl, by decide, rfl, rfl⟩
theorem FK7_9 : FK 7 9 "RopeDance$Tape" "values" "[I" 2 := ⟨T7, 11, ⟨rfl, xgu iw7, ⟨t7, tok7⟩, n7⟩, rfl, by decide, rfl, rfl⟩
theorem FK7_10 : FK 7 10 "RopeDance$Tape" "names" "[J" 2 := ⟨T7, 11, ⟨rfl, xgu iw7, ⟨t7, tok7⟩, n7⟩, rfl, by decide, rfl, rfl⟩
theorem FK8_0 : FK 8 0 "RopeDance$Text" "squares" "I" 0 := ⟨T8, 13, ⟨rfl, xgu iw8, ⟨t8, tok8⟩, n8⟩, rfl, by decide, rfl, rfl⟩
theorem FK8_1 : FK 8 1 "RopeDance$Text" "figures" "I" 0 := ⟨T8, 13, ⟨rfl, xgu iw8, ⟨t8, tok8⟩, n8⟩, rfl, by decide, rfl, rfl⟩
theorem FK8_2 : FK 8 2 "RopeDance$Text" "seed" "I" 0 := ⟨T8, 13, ⟨rfl, xgu iw8, ⟨t8, tok8⟩, n8⟩, rfl, by decide, rfl, rfl⟩
theorem FK8_3 : FK 8 3 "RopeDance$Text" "squareRows" "[LRopeDance$Row;" 2 := ⟨T8, 13, ⟨rfl, xgu iw8, ⟨t8, tok8⟩, n8⟩, rfl, by decide, rfl, rfl⟩
theorem FK8_4 : FK 8 4 "RopeDance$Text" "figureRows" "[LRopeDance$Row;" 2 := ⟨T8, 13, ⟨rfl, xgu iw8, ⟨t8, tok8⟩, n8⟩, rfl, by decide, rfl, rfl⟩
theorem FK8_5 : FK 8 5 "RopeDance$Text" "codes" "I" 0 := ⟨T8, 13, ⟨rfl, xgu iw8, ⟨t8, tok8⟩, n8⟩, rfl, by decide, rfl, rfl⟩
theorem FK8_6 : FK 8 6 "RopeDance$Text" "names" "[J" 2 := ⟨T8, 13, ⟨rfl, xgu iw8, ⟨t8, tok8⟩, n8⟩, rfl, by decide, rfl, rfl⟩
theorem FK8_7 : FK 8 7 "RopeDance$Text" "namesTold" "I" 0 := ⟨T8, 13, ⟨rfl, xgu iw8, ⟨t8, tok8⟩, n8⟩, rfl, by decide, rfl, rfl⟩
theorem FK8_8 : FK 8 8 "RopeDance$Text" "code" "[I" 2 := ⟨T8, 13, ⟨rfl, xgu iw8, ⟨t8, tok8⟩, n8⟩, rfl, by decide, rfl, rfl⟩
theorem FK8_9 : FK 8 9 "RopeDance$Text" "lawStarts" "[I" 2 := ⟨T8, 13, ⟨rfl, xgu iw8, ⟨t8, tok8⟩, n8⟩, rfl, by decide, rfl, rfl⟩
theorem FK8_10 : FK 8 10 "RopeDance$Text" "vars" "[I" 2 := ⟨T8, 13, ⟨rfl, xgu iw8, ⟨t8, tok8⟩, n8⟩, rfl, by decide, rfl, rfl⟩
theorem FK8_11 : FK 8 11 "RopeDance$Text" "stack" "[I" 2 := ⟨T8, 13, ⟨rfl, xgu iw8, ⟨t8, tok8⟩, n8⟩, rfl, by decide, rfl, rfl⟩
theorem FK8_12 : FK 8 12 "RopeDance$Text" "tried" "LRopeDance$Square;" 2 := ⟨T8, 13, ⟨rfl, xgu iw8, ⟨t8, tok8⟩, n8⟩, rfl, by decide, rfl, rfl⟩
theorem FK9_0 : FK 9 0 "RopeDance$Told" "length" "I" 0 := ⟨T9, 9, ⟨rfl, xgu iw9, ⟨t9, tok9⟩, n9⟩, rfl, by decide, rfl, rfl⟩
theorem FK9_1 : FK 9 1 "RopeDance$Told" "fitting" "I" 0 := ⟨T9, 9, ⟨rfl, xgu iw9, ⟨t9, tok9⟩, n9⟩, rfl, by decide, rfl, rfl⟩
theorem FK9_2 : FK 9 2 "RopeDance$Told" "first" "I" 0 := ⟨T9, 9, ⟨rfl, xgu iw9, ⟨t9, tok9⟩, n9⟩, rfl, by decide, rfl, rfl⟩
theorem FK9_3 : FK 9 3 "RopeDance$Told" "behinds" "[I" 2 := ⟨T9, 9, ⟨rfl, xgu iw9, ⟨t9, tok9⟩, n9⟩, rfl, by decide, rfl, rfl⟩
theorem FK9_4 : FK 9 4 "RopeDance$Told" "ends" "[I" 2 := ⟨T9, 9, ⟨rfl, xgu iw9, ⟨t9, tok9⟩, n9⟩, rfl, by decide, rfl, rfl⟩
theorem FK9_5 : FK 9 5 "RopeDance$Told" "are" "[Z" 2 := ⟨T9, 9, ⟨rfl, xgu iw9, ⟨t9, tok9⟩, n9⟩, rfl, by decide, rfl, rfl⟩
theorem FK9_6 : FK 9 6 "RopeDance$Told" "tried" "LRopeDance$Square;" 2 := ⟨T9, 9, ⟨rfl, xgu iw9, ⟨t9, tok9⟩, n9⟩, rfl, by decide, rfl, rfl⟩
theorem FK9_7 : FK 9 7 "RopeDance$Told" "endsBehind" "[I" 2 := ⟨T9, 9, ⟨rfl, xgu iw9, ⟨t9, tok9⟩, n9⟩, rfl, by decide, rfl, rfl⟩
theorem FK9_8 : FK 9 8 "RopeDance$Told" "tallies" "[I" 2 := ⟨T9, 9, ⟨rfl, xgu iw9, ⟨t9, tok9⟩, n9⟩, rfl, by decide, rfl, rfl⟩
theorem FK10_0 : FK 10 0 "RopeDance$Unwinding" "fewestBehind" "[I" 2 := ⟨T10, 2, ⟨rfl, xgu iw10, ⟨t10, tok10⟩, n10⟩, rfl, by decide, rfl, rfl⟩
theorem FK10_1 : FK 10 1 "RopeDance$Unwinding" "waysBehind" "[I" 2 := ⟨T10, 2, ⟨rfl, xgu iw10, ⟨t10, tok10⟩, n10⟩, rfl, by decide, rfl, rfl⟩
theorem FK11_0 : FK 11 0 "RopeDance" "tape" "LRopeDance$Tape;" 2 := ⟨T11, 12, ⟨rfl, xgu iw11, ⟨t11, tok11⟩, n11⟩, rfl, by decide, rfl, rfl⟩
theorem FK11_1 : FK 11 1 "RopeDance" "reader" "LRopeDance$Reader;" 2 := ⟨T11, 12, ⟨rfl, xgu iw11, ⟨t11, tok11⟩, n11⟩, rfl, by decide, rfl, rfl⟩
theorem FK11_2 : FK 11 2 "RopeDance" "text" "LRopeDance$Text;" 3 := ⟨T11, 12, ⟨rfl, xgu iw11, ⟨t11, tok11⟩, n11⟩, rfl, by decide, rfl, rfl⟩
theorem FK11_3 : FK 11 3 "RopeDance" "draft" "LRopeDance$Text;" 3 := ⟨T11, 12, ⟨rfl, xgu iw11, ⟨t11, tok11⟩, n11⟩, rfl, by decide, rfl, rfl⟩
theorem FK11_4 : FK 11 4 "RopeDance" "now" "LRopeDance$Evening;" 2 := ⟨T11, 12, ⟨rfl, xgu iw11, ⟨t11, tok11⟩, n11⟩, rfl, by decide, rfl, rfl⟩
theorem FK11_5 : FK 11 5 "RopeDance" "memory" "LRopeDance$Memory;" 2 := ⟨T11, 12, ⟨rfl, xgu iw11, ⟨t11, tok11⟩, n11⟩, rfl, by decide, rfl, rfl⟩
theorem FK11_6 : FK 11 6 "RopeDance" "told" "LRopeDance$Told;" 2 := ⟨T11, 12, ⟨rfl, xgu iw11, ⟨t11, tok11⟩, n11⟩, rfl, by decide, rfl, rfl⟩
theorem FK11_7 : FK 11 7 "RopeDance" "tried" "LRopeDance$Square;" 2 := ⟨T11, 12, ⟨rfl, xgu iw11, ⟨t11, tok11⟩, n11⟩, rfl, by decide, rfl, rfl⟩
theorem FK11_8 : FK 11 8 "RopeDance" "oneTable" "LRopeDance$Table;" 2 := ⟨T11, 12, ⟨rfl, xgu iw11, ⟨t11, tok11⟩, n11⟩, rfl, by decide, rfl, rfl⟩
theorem FK11_9 : FK 11 9 "RopeDance" "otherTable" "LRopeDance$Table;" 2 := ⟨T11, 12, ⟨rfl, xgu iw11, ⟨t11, tok11⟩, n11⟩, rfl, by decide, rfl, rfl⟩
theorem FK11_10 : FK 11 10 "RopeDance" "search" "LRopeDance$Search;" 4 := ⟨T11, 12, ⟨rfl, xgu iw11, ⟨t11, tok11⟩, n11⟩, rfl, by decide, rfl, rfl⟩
theorem FK11_11 : FK 11 11 "RopeDance" "unwinding" "LRopeDance$Unwinding;" 4 := ⟨T11, 12, ⟨rfl, xgu iw11, ⟨t11, tok11⟩, n11⟩, rfl, by decide, rfl, rfl⟩
theorem FK12_0 : FK 12 0 "RopeDanceModel" "thrown" "I" 0 := ⟨T12, 75, ⟨rfl, xgu iw12, ⟨t12, tok12⟩, n12⟩, rfl, by decide, rfl, rfl⟩
theorem FK12_1 : FK 12 1 "RopeDanceModel" "tape" "[B" 2 := ⟨T12, 75, ⟨rfl, xgu iw12, ⟨t12, tok12⟩, n12⟩, rfl, by decide, rfl, rfl⟩
theorem FK12_2 : FK 12 2 "RopeDanceModel" "taped" "I" 0 := ⟨T12, 75, ⟨rfl, xgu iw12, ⟨t12, tok12⟩, n12⟩, rfl, by decide, rfl, rfl⟩
theorem FK12_3 : FK 12 3 "RopeDanceModel" "text" "[B" 2 := ⟨T12, 75, ⟨rfl, xgu iw12, ⟨t12, tok12⟩, n12⟩, rfl, by decide, rfl, rfl⟩
theorem FK12_4 : FK 12 4 "RopeDanceModel" "size" "I" 0 := ⟨T12, 75, ⟨rfl, xgu iw12, ⟨t12, tok12⟩, n12⟩, rfl, by decide, rfl, rfl⟩
theorem FK12_5 : FK 12 5 "RopeDanceModel" "tKind" "[I" 2 := ⟨T12, 75, ⟨rfl, xgu iw12, ⟨t12, tok12⟩, n12⟩, rfl, by decide, rfl, rfl⟩
theorem FK12_6 : FK 12 6 "RopeDanceModel" "tPlace" "[I" 2 := ⟨T12, 75, ⟨rfl, xgu iw12, ⟨t12, tok12⟩, n12⟩, rfl, by decide, rfl, rfl⟩
theorem FK12_7 : FK 12 7 "RopeDanceModel" "tValue" "[I" 2 := ⟨T12, 75, ⟨rfl, xgu iw12, ⟨t12, tok12⟩, n12⟩, rfl, by decide, rfl, rfl⟩
theorem FK12_8 : FK 12 8 "RopeDanceModel" "tName" "[J" 2 := ⟨T12, 75, ⟨rfl, xgu iw12, ⟨t12, tok12⟩, n12⟩, rfl, by decide, rfl, rfl⟩
theorem FK12_9 : FK 12 9 "RopeDanceModel" "keys" "[J" 2 := ⟨T12, 75, ⟨rfl, xgu iw12, ⟨t12, tok12⟩, n12⟩, rfl, by decide, rfl, rfl⟩
theorem FK12_10 : FK 12 10 "RopeDanceModel" "tokens" "I" 0 := ⟨T12, 75, ⟨rfl, xgu iw12, ⟨t12, tok12⟩, n12⟩, rfl, by decide, rfl, rfl⟩
theorem FK12_11 : FK 12 11 "RopeDanceModel" "t" "I" 0 := ⟨T12, 75, ⟨rfl, xgu iw12, ⟨t12, tok12⟩, n12⟩, rfl, by decide, rfl, rfl⟩
theorem FK12_12 : FK 12 12 "RopeDanceModel" "open" "I" 0 := ⟨T12, 75, ⟨rfl, xgu iw12, ⟨t12, tok12⟩, n12⟩, rfl, by decide, rfl, rfl⟩
theorem FK12_13 : FK 12 13 "RopeDanceModel" "fault" "I" 0 := ⟨T12, 75, ⟨rfl, xgu iw12, ⟨t12, tok12⟩, n12⟩, rfl, by decide, rfl, rfl⟩
theorem FK12_14 : FK 12 14 "RopeDanceModel" "faultPlace" "I" 0 := ⟨T12, 75, ⟨rfl, xgu iw12, ⟨t12, tok12⟩, n12⟩, rfl, by decide, rfl, rfl⟩
theorem FK12_15 : FK 12 15 "RopeDanceModel" "worst" "I" 0 := ⟨T12, 75, ⟨rfl, xgu iw12, ⟨t12, tok12⟩, n12⟩, rfl, by decide, rfl, rfl⟩
theorem FK12_16 : FK 12 16 "RopeDanceModel" "worstPlace" "I" 0 := ⟨T12, 75, ⟨rfl, xgu iw12, ⟨t12, tok12⟩, n12⟩, rfl, by decide, rfl, rfl⟩
theorem FK12_17 : FK 12 17 "RopeDanceModel" "place" "I" 0 := ⟨T12, 75, ⟨rfl, xgu iw12, ⟨t12, tok12⟩, n12⟩, rfl, by decide, rfl, rfl⟩
theorem FK12_18 : FK 12 18 "RopeDanceModel" "live" "I" 0 := ⟨T12, 75, ⟨rfl, xgu iw12, ⟨t12, tok12⟩, n12⟩, rfl, by decide, rfl, rfl⟩
theorem FK12_19 : FK 12 19 "RopeDanceModel" "side" "I" 0 := ⟨T12, 75, ⟨rfl, xgu iw12, ⟨t12, tok12⟩, n12⟩, rfl, by decide, rfl, rfl⟩
theorem FK12_20 : FK 12 20 "RopeDanceModel" "names" "I" 0 := ⟨T12, 75, ⟨rfl, xgu iw12, ⟨t12, tok12⟩, n12⟩, rfl, by decide, rfl, rfl⟩
theorem FK12_21 : FK 12 21 "RopeDanceModel" "nameOf" "[J" 2 := ⟨T12, 75, ⟨rfl, xgu iw12, ⟨t12, tok12⟩, n12⟩, rfl, by decide, rfl, rfl⟩
theorem FK12_22 : FK 12 22 "RopeDanceModel" "squares" "[I" 2 := ⟨T12, 75, ⟨rfl, xgu iw12, ⟨t12, tok12⟩, n12⟩, rfl, by decide, rfl, rfl⟩
theorem FK12_23 : FK 12 23 "RopeDanceModel" "figures" "[I" 2 := ⟨T12, 75, ⟨rfl, xgu iw12, ⟨t12, tok12⟩, n12⟩, rfl, by decide, rfl, rfl⟩
theorem FK12_24 : FK 12 24 "RopeDanceModel" "moveMany" "[I" 2 := ⟨T12, 75, ⟨rfl, xgu iw12, ⟨t12, tok12⟩, n12⟩, rfl, by decide, rfl, rfl⟩
theorem FK12_25 : FK 12 25 "RopeDanceModel" "moveKind" "[I" 2 := ⟨T12, 75, ⟨rfl, xgu iw12, ⟨t12, tok12⟩, n12⟩, rfl, by decide, rfl, rfl⟩
theorem FK12_26 : FK 12 26 "RopeDanceModel" "moveInt" "[I" 2 := ⟨T12, 75, ⟨rfl, xgu iw12, ⟨t12, tok12⟩, n12⟩, rfl, by decide, rfl, rfl⟩
theorem FK12_27 : FK 12 27 "RopeDanceModel" "firstTangle" "[I" 2 := ⟨T12, 75, ⟨rfl, xgu iw12, ⟨t12, tok12⟩, n12⟩, rfl, by decide, rfl, rfl⟩
theorem FK12_28 : FK 12 28 "RopeDanceModel" "seed" "[I" 2 := ⟨T12, 75, ⟨rfl, xgu iw12, ⟨t12, tok12⟩, n12⟩, rfl, by decide, rfl, rfl⟩
theorem FK12_29 : FK 12 29 "RopeDanceModel" "lawFirst" "[I" 2 := ⟨T12, 75, ⟨rfl, xgu iw12, ⟨t12, tok12⟩, n12⟩, rfl, by decide, rfl, rfl⟩
theorem FK12_30 : FK 12 30 "RopeDanceModel" "lawLast" "[I" 2 := ⟨T12, 75, ⟨rfl, xgu iw12, ⟨t12, tok12⟩, n12⟩, rfl, by decide, rfl, rfl⟩
theorem FK12_31 : FK 12 31 "RopeDanceModel" "branches" "I" 0 := ⟨T12, 75, ⟨rfl, xgu iw12, ⟨t12, tok12⟩, n12⟩, rfl, by decide, rfl, rfl⟩
theorem FK12_32 : FK 12 32 "RopeDanceModel" "hasTest" "[Z" 2 := ⟨T12, 75, ⟨rfl, xgu iw12, ⟨t12, tok12⟩, n12⟩, rfl, by decide, rfl, rfl⟩
theorem FK12_33 : FK 12 33 "RopeDanceModel" "testFrom" "[I" 2 := ⟨T12, 75, ⟨rfl, xgu iw12, ⟨t12, tok12⟩, n12⟩, rfl, by decide, rfl, rfl⟩
theorem FK12_34 : FK 12 34 "RopeDanceModel" "testMid" "[I" 2 := ⟨T12, 75, ⟨rfl, xgu iw12, ⟨t12, tok12⟩, n12⟩, rfl, by decide, rfl, rfl⟩
theorem FK12_35 : FK 12 35 "RopeDanceModel" "testTo" "[I" 2 := ⟨T12, 75, ⟨rfl, xgu iw12, ⟨t12, tok12⟩, n12⟩, rfl, by decide, rfl, rfl⟩
theorem FK12_36 : FK 12 36 "RopeDanceModel" "termTo" "[I" 2 := ⟨T12, 75, ⟨rfl, xgu iw12, ⟨t12, tok12⟩, n12⟩, rfl, by decide, rfl, rfl⟩
theorem FK12_37 : FK 12 37 "RopeDanceModel" "codes" "I" 0 := ⟨T12, 75, ⟨rfl, xgu iw12, ⟨t12, tok12⟩, n12⟩, rfl, by decide, rfl, rfl⟩
theorem FK12_38 : FK 12 38 "RopeDanceModel" "code" "[I" 2 := ⟨T12, 75, ⟨rfl, xgu iw12, ⟨t12, tok12⟩, n12⟩, rfl, by decide, rfl, rfl⟩
theorem FK12_39 : FK 12 39 "RopeDanceModel" "codeInt" "[I" 2 := ⟨T12, 75, ⟨rfl, xgu iw12, ⟨t12, tok12⟩, n12⟩, rfl, by decide, rfl, rfl⟩
theorem FK12_40 : FK 12 40 "RopeDanceModel" "waits" "[I" 2 := ⟨T12, 75, ⟨rfl, xgu iw12, ⟨t12, tok12⟩, n12⟩, rfl, by decide, rfl, rfl⟩
theorem FK12_41 : FK 12 41 "RopeDanceModel" "waiting" "I" 0 := ⟨T12, 75, ⟨rfl, xgu iw12, ⟨t12, tok12⟩, n12⟩, rfl, by decide, rfl, rfl⟩
theorem FK12_42 : FK 12 42 "RopeDanceModel" "variables" "[I" 2 := ⟨T12, 75, ⟨rfl, xgu iw12, ⟨t12, tok12⟩, n12⟩, rfl, by decide, rfl, rfl⟩
theorem FK12_43 : FK 12 43 "RopeDanceModel" "pile" "[I" 2 := ⟨T12, 75, ⟨rfl, xgu iw12, ⟨t12, tok12⟩, n12⟩, rfl, by decide, rfl, rfl⟩
theorem FK12_44 : FK 12 44 "RopeDanceModel" "isBroken" "Z" 0 := ⟨T12, 75, ⟨rfl, xgu iw12, ⟨t12, tok12⟩, n12⟩, rfl, by decide, rfl, rfl⟩
theorem FK12_45 : FK 12 45 "RopeDanceModel" "now" "[I" 2 := ⟨T12, 75, ⟨rfl, xgu iw12, ⟨t12, tok12⟩, n12⟩, rfl, by decide, rfl, rfl⟩
theorem FK12_46 : FK 12 46 "RopeDanceModel" "row" "[I" 2 := ⟨T12, 75, ⟨rfl, xgu iw12, ⟨t12, tok12⟩, n12⟩, rfl, by decide, rfl, rfl⟩
theorem FK12_47 : FK 12 47 "RopeDanceModel" "lots" "I" 0 := ⟨T12, 75, ⟨rfl, xgu iw12, ⟨t12, tok12⟩, n12⟩, rfl, by decide, rfl, rfl⟩
theorem FK12_48 : FK 12 48 "RopeDanceModel" "leastBy" "[I" 2 := ⟨T12, 75, ⟨rfl, xgu iw12, ⟨t12, tok12⟩, n12⟩, rfl, by decide, rfl, rfl⟩
theorem FK12_49 : FK 12 49 "RopeDanceModel" "waysBy" "[I" 2 := ⟨T12, 75, ⟨rfl, xgu iw12, ⟨t12, tok12⟩, n12⟩, rfl, by decide, rfl, rfl⟩
theorem FK12_50 : FK 12 50 "RopeDanceModel" "undos" "I" 0 := ⟨T12, 75, ⟨rfl, xgu iw12, ⟨t12, tok12⟩, n12⟩, rfl, by decide, rfl, rfl⟩
theorem FK12_51 : FK 12 51 "RopeDanceModel" "history" "[I" 2 := ⟨T12, 75, ⟨rfl, xgu iw12, ⟨t12, tok12⟩, n12⟩, rfl, by decide, rfl, rfl⟩
theorem FK12_52 : FK 12 52 "RopeDanceModel" "farBy" "[I" 2 := ⟨T12, 75, ⟨rfl, xgu iw12, ⟨t12, tok12⟩, n12⟩, rfl, by decide, rfl, rfl⟩
theorem FK12_53 : FK 12 53 "RopeDanceModel" "fromBy" "[I" 2 := ⟨T12, 75, ⟨rfl, xgu iw12, ⟨t12, tok12⟩, n12⟩, rfl, by decide, rfl, rfl⟩
theorem FK12_54 : FK 12 54 "RopeDanceModel" "figureBy" "[I" 2 := ⟨T12, 75, ⟨rfl, xgu iw12, ⟨t12, tok12⟩, n12⟩, rfl, by decide, rfl, rfl⟩
theorem FK12_55 : FK 12 55 "RopeDanceModel" "line" "[I" 2 := ⟨T12, 75, ⟨rfl, xgu iw12, ⟨t12, tok12⟩, n12⟩, rfl, by decide, rfl, rfl⟩
theorem FK12_56 : FK 12 56 "RopeDanceModel" "lineMany" "I" 0 := ⟨T12, 75, ⟨rfl, xgu iw12, ⟨t12, tok12⟩, n12⟩, rfl, by decide, rfl, rfl⟩
theorem FK12_57 : FK 12 57 "RopeDanceModel" "tableA" "I" 0 := ⟨T12, 75, ⟨rfl, xgu iw12, ⟨t12, tok12⟩, n12⟩, rfl, by decide, rfl, rfl⟩
theorem FK12_58 : FK 12 58 "RopeDanceModel" "tableB" "I" 0 := ⟨T12, 75, ⟨rfl, xgu iw12, ⟨t12, tok12⟩, n12⟩, rfl, by decide, rfl, rfl⟩
theorem FK12_59 : FK 12 59 "RopeDanceModel" "tableC" "I" 0 := ⟨T12, 75, ⟨rfl, xgu iw12, ⟨t12, tok12⟩, n12⟩, rfl, by decide, rfl, rfl⟩
theorem FK12_60 : FK 12 60 "RopeDanceModel" "tableD" "I" 0 := ⟨T12, 75, ⟨rfl, xgu iw12, ⟨t12, tok12⟩, n12⟩, rfl, by decide, rfl, rfl⟩
theorem FK12_61 : FK 12 61 "RopeDanceModel" "mod" "I" 0 := ⟨T12, 75, ⟨rfl, xgu iw12, ⟨t12, tok12⟩, n12⟩, rfl, by decide, rfl, rfl⟩
theorem FK12_62 : FK 12 62 "RopeDanceModel" "restA" "I" 0 := ⟨T12, 75, ⟨rfl, xgu iw12, ⟨t12, tok12⟩, n12⟩, rfl, by decide, rfl, rfl⟩
theorem FK12_63 : FK 12 63 "RopeDanceModel" "restB" "I" 0 := ⟨T12, 75, ⟨rfl, xgu iw12, ⟨t12, tok12⟩, n12⟩, rfl, by decide, rfl, rfl⟩
theorem FK12_64 : FK 12 64 "RopeDanceModel" "restC" "I" 0 := ⟨T12, 75, ⟨rfl, xgu iw12, ⟨t12, tok12⟩, n12⟩, rfl, by decide, rfl, rfl⟩
theorem FK12_65 : FK 12 65 "RopeDanceModel" "restD" "I" 0 := ⟨T12, 75, ⟨rfl, xgu iw12, ⟨t12, tok12⟩, n12⟩, rfl, by decide, rfl, rfl⟩
theorem FK12_66 : FK 12 66 "RopeDanceModel" "tolds" "I" 0 := ⟨T12, 75, ⟨rfl, xgu iw12, ⟨t12, tok12⟩, n12⟩, rfl, by decide, rfl, rfl⟩
theorem FK12_67 : FK 12 67 "RopeDanceModel" "toldBehind" "[I" 2 := ⟨T12, 75, ⟨rfl, xgu iw12, ⟨t12, tok12⟩, n12⟩, rfl, by decide, rfl, rfl⟩
theorem FK12_68 : FK 12 68 "RopeDanceModel" "toldEnds" "[I" 2 := ⟨T12, 75, ⟨rfl, xgu iw12, ⟨t12, tok12⟩, n12⟩, rfl, by decide, rfl, rfl⟩
theorem FK12_69 : FK 12 69 "RopeDanceModel" "toldSo" "[Z" 2 := ⟨T12, 75, ⟨rfl, xgu iw12, ⟨t12, tok12⟩, n12⟩, rfl, by decide, rfl, rfl⟩
theorem FK12_70 : FK 12 70 "RopeDanceModel" "endsBy" "[I" 2 := ⟨T12, 75, ⟨rfl, xgu iw12, ⟨t12, tok12⟩, n12⟩, rfl, by decide, rfl, rfl⟩
theorem FK12_71 : FK 12 71 "RopeDanceModel" "digits" "[I" 2 := ⟨T12, 75, ⟨rfl, xgu iw12, ⟨t12, tok12⟩, n12⟩, rfl, by decide, rfl, rfl⟩
theorem FK12_72 : FK 12 72 "RopeDanceModel" "manyBy" "[I" 2 := ⟨T12, 75, ⟨rfl, xgu iw12, ⟨t12, tok12⟩, n12⟩, rfl, by decide, rfl, rfl⟩
theorem FK12_73 : FK 12 73 "RopeDanceModel" "isHeld" "[Z" 2 := ⟨T12, 75, ⟨rfl, xgu iw12, ⟨t12, tok12⟩, n12⟩, rfl, by decide, rfl, rfl⟩
theorem FK12_74 : FK 12 74 "RopeDanceModel" "heldRows" "[I" 2 := ⟨T12, 75, ⟨rfl, xgu iw12, ⟨t12, tok12⟩, n12⟩, rfl, by decide, rfl, rfl⟩
theorem ci_0 : Int32.ofInt (0) = 0 := by decide
theorem ci_4 : Int32.ofInt (4) = 4 := by decide
theorem ci_1 : Int32.ofInt (1) = 1 := by decide
theorem cb_8 : (Int8.ofInt (8)).toInt32 = 8 := by decide
theorem ci_2 : Int32.ofInt (2) = 2 := by decide
theorem cb_18 : (Int8.ofInt (18)).toInt32 = 18 := by decide
theorem cb_16 : (Int8.ofInt (16)).toInt32 = 16 := by decide
theorem ti_16 : (16 : Int32).toNatClampNeg = 16 := by decide
theorem cb_17 : (Int8.ofInt (17)).toInt32 = 17 := by decide
theorem ti_17 : (17 : Int32).toNatClampNeg = 17 := by decide
theorem ci_3 : Int32.ofInt (3) = 3 := by decide
theorem cb_40 : (Int8.ofInt (40)).toInt32 = 40 := by decide
theorem ci_m1 : Int32.ofInt (-1) = (-1) := by decide
theorem cs_400 : (Int16.ofInt (400)).toInt32 = 400 := by decide
theorem cb_33 : (Int8.ofInt (33)).toInt32 = 33 := by decide
theorem cb_6 : (Int8.ofInt (6)).toInt32 = 6 := by decide
theorem ci_5 : Int32.ofInt (5) = 5 := by decide
theorem cb_22 : (Int8.ofInt (22)).toInt32 = 22 := by decide
theorem cb_24 : (Int8.ofInt (24)).toInt32 = 24 := by decide
theorem cb_7 : (Int8.ofInt (7)).toInt32 = 7 := by decide
theorem cb_9 : (Int8.ofInt (9)).toInt32 = 9 := by decide
theorem cb_23 : (Int8.ofInt (23)).toInt32 = 23 := by decide
theorem cb_25 : (Int8.ofInt (25)).toInt32 = 25 := by decide
theorem cb_m15 : (Int8.ofInt (-15)).toInt32 = (-15) := by decide
theorem cb_10 : (Int8.ofInt (10)).toInt32 = 10 := by decide
theorem cb_30 : (Int8.ofInt (30)).toInt32 = 30 := by decide
theorem cb_11 : (Int8.ofInt (11)).toInt32 = 11 := by decide
theorem cb_12 : (Int8.ofInt (12)).toInt32 = 12 := by decide
theorem cb_26 : (Int8.ofInt (26)).toInt32 = 26 := by decide
theorem cb_32 : (Int8.ofInt (32)).toInt32 = 32 := by decide
theorem cb_29 : (Int8.ofInt (29)).toInt32 = 29 := by decide
theorem cb_28 : (Int8.ofInt (28)).toInt32 = 28 := by decide
theorem cb_31 : (Int8.ofInt (31)).toInt32 = 31 := by decide
theorem cb_13 : (Int8.ofInt (13)).toInt32 = 13 := by decide
theorem cb_21 : (Int8.ofInt (21)).toInt32 = 21 := by decide
theorem cb_m10 : (Int8.ofInt (-10)).toInt32 = (-10) := by decide
theorem cb_99 : (Int8.ofInt (99)).toInt32 = 99 := by decide
theorem cb_100 : (Int8.ofInt (100)).toInt32 = 100 := by decide
theorem cb_m99 : (Int8.ofInt (-99)).toInt32 = (-99) := by decide
theorem cs_12016 : (Int16.ofInt (12016)).toInt32 = 12016 := by decide
theorem cs_2000 : (Int16.ofInt (2000)).toInt32 = 2000 := by decide
theorem cb_34 : (Int8.ofInt (34)).toInt32 = 34 := by decide
theorem cb_48 : (Int8.ofInt (48)).toInt32 = 48 := by decide
theorem cb_97 : (Int8.ofInt (97)).toInt32 = 97 := by decide
theorem cb_122 : (Int8.ofInt (122)).toInt32 = 122 := by decide
theorem cb_57 : (Int8.ofInt (57)).toInt32 = 57 := by decide
theorem cb_m8 : (Int8.ofInt (-8)).toInt32 = (-8) := by decide
theorem cb_m3 : (Int8.ofInt (-3)).toInt32 = (-3) := by decide
theorem cb_m14 : (Int8.ofInt (-14)).toInt32 = (-14) := by decide
theorem ti_0 : (0 : Int32).toNatClampNeg = 0 := by decide
theorem ti_1 : (1 : Int32).toNatClampNeg = 1 := by decide
theorem ti_2 : (2 : Int32).toNatClampNeg = 2 := by decide
theorem ti_3 : (3 : Int32).toNatClampNeg = 3 := by decide
theorem ti_4 : (4 : Int32).toNatClampNeg = 4 := by decide
theorem ti_5 : (5 : Int32).toNatClampNeg = 5 := by decide
theorem ti_6 : (6 : Int32).toNatClampNeg = 6 := by decide
theorem ti_7 : (7 : Int32).toNatClampNeg = 7 := by decide
theorem ti_8 : (8 : Int32).toNatClampNeg = 8 := by decide
theorem cb_m13 : (Int8.ofInt (-13)).toInt32 = (-13) := by decide
theorem ci_m2 : Int32.ofInt (-2) = (-2) := by decide
theorem cs_999 : (Int16.ofInt (999)).toInt32 = 999 := by decide
theorem cs_209 : (Int16.ofInt (209)).toInt32 = 209 := by decide
theorem cs_12345 : (Int16.ofInt (12345)).toInt32 = 12345 := by decide
theorem cb_15 : (Int8.ofInt (15)).toInt32 = 15 := by decide
theorem cb_20 : (Int8.ofInt (20)).toInt32 = 20 := by decide
theorem cb_m2 : (Int8.ofInt (-2)).toInt32 = (-2) := by decide
theorem cs_m1000 : (Int16.ofInt (-1000)).toInt32 = (-1000) := by decide
theorem cb_60 : (Int8.ofInt (60)).toInt32 = 60 := by decide
theorem ci_m8 : Int32.ofInt (-8) = (-8) := by decide
theorem cs_255 : (Int16.ofInt (255)).toInt32 = 255 := by decide
theorem cb_59 : (Int8.ofInt (59)).toInt32 = 59 := by decide
theorem cb_61 : (Int8.ofInt (61)).toInt32 = 61 := by decide
theorem cb_41 : (Int8.ofInt (41)).toInt32 = 41 := by decide
theorem cb_43 : (Int8.ofInt (43)).toInt32 = 43 := by decide
theorem cb_45 : (Int8.ofInt (45)).toInt32 = 45 := by decide
theorem cb_42 : (Int8.ofInt (42)).toInt32 = 42 := by decide
theorem cb_47 : (Int8.ofInt (47)).toInt32 = 47 := by decide
theorem cs_130 : (Int16.ofInt (130)).toInt32 = 130 := by decide
theorem cs_420 : (Int16.ofInt (420)).toInt32 = 420 := by decide
theorem cs_9999 : (Int16.ofInt (9999)).toInt32 = 9999 := by decide
theorem cs_300 : (Int16.ofInt (300)).toInt32 = 300 := by decide
theorem cb_27 : (Int8.ofInt (27)).toInt32 = 27 := by decide
theorem cs_200 : (Int16.ofInt (200)).toInt32 = 200 := by decide
theorem cb_101 : (Int8.ofInt (101)).toInt32 = 101 := by decide
theorem cb_14 : (Int8.ofInt (14)).toInt32 = 14 := by decide
theorem ti_12 : (12 : Int32).toNatClampNeg = 12 := by decide
theorem ti_13 : (13 : Int32).toNatClampNeg = 13 := by decide
theorem ti_101 : (101 : Int32).toNatClampNeg = 101 := by decide
theorem cs_546 : (Int16.ofInt (546)).toInt32 = 546 := by decide
theorem cs_20000 : (Int16.ofInt (20000)).toInt32 = 20000 := by decide
theorem ti_9 : (9 : Int32).toNatClampNeg = 9 := by decide
theorem ti_10 : (10 : Int32).toNatClampNeg = 10 := by decide
theorem ti_11 : (11 : Int32).toNatClampNeg = 11 := by decide
theorem wf_X0_18 : Cond.fieldLink "RopeDance$Evening" (18 : Nat) "RopeDance$Evening" "minute" "I" ∈ lw_g := xg (xin_2 (List.mem_of_getElem? (i := 45) rfl)) rfl
theorem wf_X0_22 : Cond.fieldLink "RopeDance$Evening" (22 : Nat) "RopeDance$Evening" "paid" "I" ∈ lw_g := xg (xin_2 (List.mem_of_getElem? (i := 47) rfl)) rfl
theorem wf_X0_11 : Cond.fieldLink "RopeDance$Evening" (11 : Nat) "RopeDance$Evening" "squares" "[LRopeDance$Square;" ∈ lw_g := xg (xin_2 (List.mem_of_getElem? (i := 43) rfl)) rfl
theorem wn_X5 : Cond.initialized "RopeDance$Square" ∈ lw_g := xg (xin_1 (List.mem_of_getElem? (i := 6) rfl)) rfl
theorem wk_X5_letGo : Cond.code ({ cls := "RopeDance$Square", name := "letGo", desc := "()V" } : Jvm.MethodName) prog_7_method_6_code (1 : Nat) (Option.none : Option Jvm.ClassFile.FieldType) ∈ lw_g := xg (xin_3 (List.mem_of_getElem? (i := 173) rfl)) rfl
theorem MK_X5_letGo : MK yX5_letGo bX5_letGo 1 none 0 := ⟨wn_X5, wk_X5_letGo, ⟨by decide, by decide, by decide +kernel⟩, by decide⟩
theorem wi_X5_letGo : Cond.instanceMethod ({ cls := "RopeDance$Square", name := "letGo", desc := "()V" } : Jvm.MethodName) ∈ lw_g := xg (xin_3 (List.mem_of_getElem? (i := 171) rfl)) rfl
theorem we_X5_letGo : Cond.selects "RopeDance$Square" yX5_letGo yX5_letGo ∈ lw_g := xg (xin_3 (List.mem_of_getElem? (i := 172) rfl)) rfl
theorem wm_X0_25 : Cond.methodLink "RopeDance$Evening" (25 : Nat) ({ cls := "RopeDance$Square", name := "letGo", desc := "()V" } : Jvm.MethodName) ∈ lw_g := xg (xin_3 (List.mem_of_getElem? (i := 238) rfl)) rfl
theorem wf_X0_28 : Cond.fieldLink "RopeDance$Evening" (28 : Nat) "RopeDance$Square" "tired" "I" ∈ lw_g := xg (xin_1 (List.mem_of_getElem? (i := 148) rfl)) rfl
theorem wf_X0_31 : Cond.fieldLink "RopeDance$Evening" (31 : Nat) "RopeDance$Square" "called" "I" ∈ lw_g := xg (xin_1 (List.mem_of_getElem? (i := 152) rfl)) rfl
theorem wf_X0_34 : Cond.fieldLink "RopeDance$Evening" (34 : Nat) "RopeDance$Text" "squares" "I" ∈ lw_g := xg (xin_1 (List.mem_of_getElem? (i := 182) rfl)) rfl
theorem wf_X0_36 : Cond.fieldLink "RopeDance$Evening" (36 : Nat) "RopeDance$Text" "squareRows" "[LRopeDance$Row;" ∈ lw_g := xg (xin_1 (List.mem_of_getElem? (i := 193) rfl)) rfl
theorem wn_X3 : Cond.initialized "RopeDance$Row" ∈ lw_g := xg (xin_1 (List.mem_of_getElem? (i := 4) rfl)) rfl
theorem wk_X3_makes : Cond.code ({ cls := "RopeDance$Row", name := "makes", desc := "(LRopeDance$Square;I)Z" } : Jvm.MethodName) prog_5_method_5_code (5 : Nat) (Option.some Jvm.ClassFile.FieldType.boolean) ∈ lw_g := xg (xin_3 (List.mem_of_getElem? (i := 177) rfl)) rfl
theorem MK_X3_makes : MK yX3_makes bX3_makes 5 (some .boolean) 2 := ⟨wn_X3, wk_X3_makes, ⟨by decide, by decide, by decide +kernel⟩, by decide⟩
theorem wi_X3_makes : Cond.instanceMethod ({ cls := "RopeDance$Row", name := "makes", desc := "(LRopeDance$Square;I)Z" } : Jvm.MethodName) ∈ lw_g := xg (xin_3 (List.mem_of_getElem? (i := 175) rfl)) rfl
theorem we_X3_makes : Cond.selects "RopeDance$Row" yX3_makes yX3_makes ∈ lw_g := xg (xin_3 (List.mem_of_getElem? (i := 176) rfl)) rfl
theorem wm_X0_42 : Cond.methodLink "RopeDance$Evening" (42 : Nat) ({ cls := "RopeDance$Row", name := "makes", desc := "(LRopeDance$Square;I)Z" } : Jvm.MethodName) ∈ lw_g := xg (xin_3 (List.mem_of_getElem? (i := 239) rfl)) rfl
theorem wn_X8 : Cond.initialized "RopeDance$Text" ∈ lw_g := xg (xin_1 (List.mem_of_getElem? (i := 3) rfl)) rfl
theorem wk_X8_worth : Cond.code ({ cls := "RopeDance$Text", name := "worth", desc := "(ILRopeDance$Square;III)I" } : Jvm.MethodName) prog_10_method_12_code (6 : Nat) (Option.some Jvm.ClassFile.FieldType.int) ∈ lw_g := xg (xin_4 (List.mem_of_getElem? (i := 37) rfl)) rfl
theorem MK_X8_worth : MK yX8_worth bX8_worth 6 (some .int) 5 := ⟨wn_X8, wk_X8_worth, ⟨by decide, by decide, by decide +kernel⟩, by decide⟩
theorem wi_X8_worth : Cond.instanceMethod ({ cls := "RopeDance$Text", name := "worth", desc := "(ILRopeDance$Square;III)I" } : Jvm.MethodName) ∈ lw_g := xg (xin_4 (List.mem_of_getElem? (i := 35) rfl)) rfl
theorem we_X8_worth : Cond.selects "RopeDance$Text" yX8_worth yX8_worth ∈ lw_g := xg (xin_4 (List.mem_of_getElem? (i := 36) rfl)) rfl
theorem wm_X0_46 : Cond.methodLink "RopeDance$Evening" (46 : Nat) ({ cls := "RopeDance$Text", name := "worth", desc := "(ILRopeDance$Square;III)I" } : Jvm.MethodName) ∈ lw_g := xg (xin_4 (List.mem_of_getElem? (i := 126) rfl)) rfl
theorem wf_X0_50 : Cond.fieldLink "RopeDance$Evening" (50 : Nat) "RopeDance$Text" "seed" "I" ∈ lw_g := xg (xin_1 (List.mem_of_getElem? (i := 189) rfl)) rfl
theorem wk_X8_passMinute : Cond.code ({ cls := "RopeDance$Text", name := "passMinute", desc := "(LRopeDance$Square;III)V" } : Jvm.MethodName) prog_10_method_17_code (8 : Nat) (Option.none : Option Jvm.ClassFile.FieldType) ∈ lw_g := xg (xin_4 (List.mem_of_getElem? (i := 130) rfl)) rfl
theorem MK_X8_passMinute : MK yX8_passMinute bX8_passMinute 8 none 4 := ⟨wn_X8, wk_X8_passMinute, ⟨by decide, by decide, by decide +kernel⟩, by decide⟩
theorem wi_X8_passMinute : Cond.instanceMethod ({ cls := "RopeDance$Text", name := "passMinute", desc := "(LRopeDance$Square;III)V" } : Jvm.MethodName) ∈ lw_g := xg (xin_4 (List.mem_of_getElem? (i := 128) rfl)) rfl
theorem we_X8_passMinute : Cond.selects "RopeDance$Text" yX8_passMinute yX8_passMinute ∈ lw_g := xg (xin_4 (List.mem_of_getElem? (i := 129) rfl)) rfl
theorem wm_X0_53 : Cond.methodLink "RopeDance$Evening" (53 : Nat) ({ cls := "RopeDance$Text", name := "passMinute", desc := "(LRopeDance$Square;III)V" } : Jvm.MethodName) ∈ lw_g := xg (xin_4 (List.mem_of_getElem? (i := 127) rfl)) rfl
theorem wf_X0_57 : Cond.fieldLink "RopeDance$Evening" (57 : Nat) "RopeDance$Square" "p" "I" ∈ lw_g := xg (xin_1 (List.mem_of_getElem? (i := 137) rfl)) rfl
theorem wf_X0_60 : Cond.fieldLink "RopeDance$Evening" (60 : Nat) "RopeDance$Square" "q" "I" ∈ lw_g := xg (xin_1 (List.mem_of_getElem? (i := 144) rfl)) rfl
theorem wf_X1_23 : Cond.fieldLink "RopeDance$Memory" (23 : Nat) "RopeDance$Memory" "length" "I" ∈ lw_g := xg (xin_2 (List.mem_of_getElem? (i := 64) rfl)) rfl
theorem wf_X1_19 : Cond.fieldLink "RopeDance$Memory" (19 : Nat) "RopeDance$Memory" "held" "[Z" ∈ lw_g := xg (xin_2 (List.mem_of_getElem? (i := 69) rfl)) rfl
theorem wf_X1_13 : Cond.fieldLink "RopeDance$Memory" (13 : Nat) "RopeDance$Memory" "ahead" "[[I" ∈ lw_g := xg (xin_2 (List.mem_of_getElem? (i := 67) rfl)) rfl
theorem wf_X1_27 : Cond.fieldLink "RopeDance$Memory" (27 : Nat) "RopeDance$Memory" "next" "I" ∈ lw_g := xg (xin_2 (List.mem_of_getElem? (i := 66) rfl)) rfl
theorem wn_X0 : Cond.initialized "RopeDance$Evening" ∈ lw_g := xg (xin_1 (List.mem_of_getElem? (i := 8) rfl)) rfl
theorem wk_X0_putInto : Cond.code ({ cls := "RopeDance$Evening", name := "putInto", desc := "([I)V" } : Jvm.MethodName) prog_2_method_4_code (3 : Nat) (Option.none : Option Jvm.ClassFile.FieldType) ∈ lw_g := xg (xin_4 (List.mem_of_getElem? (i := 95) rfl)) rfl
theorem MK_X0_putInto : MK yX0_putInto bX0_putInto 3 none 1 := ⟨wn_X0, wk_X0_putInto, ⟨by decide, by decide, by decide +kernel⟩, by decide⟩
theorem wi_X0_putInto : Cond.instanceMethod ({ cls := "RopeDance$Evening", name := "putInto", desc := "([I)V" } : Jvm.MethodName) ∈ lw_g := xg (xin_4 (List.mem_of_getElem? (i := 93) rfl)) rfl
theorem we_X0_putInto : Cond.selects "RopeDance$Evening" yX0_putInto yX0_putInto ∈ lw_g := xg (xin_4 (List.mem_of_getElem? (i := 94) rfl)) rfl
theorem wm_X1_30 : Cond.methodLink "RopeDance$Memory" (30 : Nat) ({ cls := "RopeDance$Evening", name := "putInto", desc := "([I)V" } : Jvm.MethodName) ∈ lw_g := xg (xin_4 (List.mem_of_getElem? (i := 92) rfl)) rfl
theorem wm_X1_34 : Cond.methodLink "RopeDance$Memory" (34 : Nat) ({ cls := "java/lang/Math", name := "min", desc := "(II)I" } : Jvm.MethodName) ∈ lw_g := xg (xin_4 (List.mem_of_getElem? (i := 96) rfl)) rfl
theorem wk_X0_takeFrom : Cond.code ({ cls := "RopeDance$Evening", name := "takeFrom", desc := "([I)V" } : Jvm.MethodName) prog_2_method_5_code (3 : Nat) (Option.none : Option Jvm.ClassFile.FieldType) ∈ lw_g := xg (xin_4 (List.mem_of_getElem? (i := 151) rfl)) rfl
theorem MK_X0_takeFrom : MK yX0_takeFrom bX0_takeFrom 3 none 1 := ⟨wn_X0, wk_X0_takeFrom, ⟨by decide, by decide, by decide +kernel⟩, by decide⟩
theorem wi_X0_takeFrom : Cond.instanceMethod ({ cls := "RopeDance$Evening", name := "takeFrom", desc := "([I)V" } : Jvm.MethodName) ∈ lw_g := xg (xin_4 (List.mem_of_getElem? (i := 149) rfl)) rfl
theorem we_X0_takeFrom : Cond.selects "RopeDance$Evening" yX0_takeFrom yX0_takeFrom ∈ lw_g := xg (xin_4 (List.mem_of_getElem? (i := 150) rfl)) rfl
theorem wm_X1_40 : Cond.methodLink "RopeDance$Memory" (40 : Nat) ({ cls := "RopeDance$Evening", name := "takeFrom", desc := "([I)V" } : Jvm.MethodName) ∈ lw_g := xg (xin_4 (List.mem_of_getElem? (i := 148) rfl)) rfl
theorem wf_X1_16 : Cond.fieldLink "RopeDance$Memory" (16 : Nat) "RopeDance$Memory" "slots" "[[I" ∈ lw_g := xg (xin_2 (List.mem_of_getElem? (i := 68) rfl)) rfl
theorem wf_X2_15 : Cond.fieldLink "RopeDance$Reader" (15 : Nat) "RopeDance$Reader" "text" "LRopeDance$Text;" ∈ lw_g := xg (xin_2 (List.mem_of_getElem? (i := 6) rfl)) rfl
theorem wf_X2_34 : Cond.fieldLink "RopeDance$Reader" (34 : Nat) "RopeDance$Reader" "fault" "I" ∈ lw_g := xg (xin_2 (List.mem_of_getElem? (i := 1) rfl)) rfl
theorem wf_X2_30 : Cond.fieldLink "RopeDance$Reader" (30 : Nat) "RopeDance$Reader" "place" "I" ∈ lw_g := xg (xin_2 (List.mem_of_getElem? (i := 3) rfl)) rfl
theorem wf_X2_37 : Cond.fieldLink "RopeDance$Reader" (37 : Nat) "RopeDance$Reader" "doubt" "I" ∈ lw_g := xg (xin_2 (List.mem_of_getElem? (i := 7) rfl)) rfl
theorem wf_X2_40 : Cond.fieldLink "RopeDance$Reader" (40 : Nat) "RopeDance$Reader" "doubtPlace" "I" ∈ lw_g := xg (xin_2 (List.mem_of_getElem? (i := 8) rfl)) rfl
theorem wk_X8_clear : Cond.code ({ cls := "RopeDance$Text", name := "clear", desc := "()V" } : Jvm.MethodName) prog_10_method_2_code (1 : Nat) (Option.none : Option Jvm.ClassFile.FieldType) ∈ lw_g := xg (xin_1 (List.mem_of_getElem? (i := 168) rfl)) rfl
theorem MK_X8_clear : MK yX8_clear bX8_clear 1 none 0 := ⟨wn_X8, wk_X8_clear, ⟨by decide, by decide, by decide +kernel⟩, by decide⟩
theorem wi_X8_clear : Cond.instanceMethod ({ cls := "RopeDance$Text", name := "clear", desc := "()V" } : Jvm.MethodName) ∈ lw_g := xg (xin_1 (List.mem_of_getElem? (i := 166) rfl)) rfl
theorem we_X8_clear : Cond.selects "RopeDance$Text" yX8_clear yX8_clear ∈ lw_g := xg (xin_1 (List.mem_of_getElem? (i := 167) rfl)) rfl
theorem wm_X2_43 : Cond.methodLink "RopeDance$Reader" (43 : Nat) ({ cls := "RopeDance$Text", name := "clear", desc := "()V" } : Jvm.MethodName) ∈ lw_g := xg (xin_2 (List.mem_of_getElem? (i := 187) rfl)) rfl
theorem wf_X2_9 : Cond.fieldLink "RopeDance$Reader" (9 : Nat) "RopeDance$Reader" "tape" "LRopeDance$Tape;" ∈ lw_g := xg (xin_2 (List.mem_of_getElem? (i := 5) rfl)) rfl
theorem wn_X7 : Cond.initialized "RopeDance$Tape" ∈ lw_g := xg (xin_1 (List.mem_of_getElem? (i := 2) rfl)) rfl
theorem wk_X7_scan : Cond.code ({ cls := "RopeDance$Tape", name := "scan", desc := "()V" } : Jvm.MethodName) prog_9_method_4_code (3 : Nat) (Option.none : Option Jvm.ClassFile.FieldType) ∈ lw_g := xg (xin_2 (List.mem_of_getElem? (i := 191) rfl)) rfl
theorem MK_X7_scan : MK yX7_scan bX7_scan 3 none 0 := ⟨wn_X7, wk_X7_scan, ⟨by decide, by decide, by decide +kernel⟩, by decide⟩
theorem wi_X7_scan : Cond.instanceMethod ({ cls := "RopeDance$Tape", name := "scan", desc := "()V" } : Jvm.MethodName) ∈ lw_g := xg (xin_2 (List.mem_of_getElem? (i := 189) rfl)) rfl
theorem we_X7_scan : Cond.selects "RopeDance$Tape" yX7_scan yX7_scan ∈ lw_g := xg (xin_2 (List.mem_of_getElem? (i := 190) rfl)) rfl
theorem wm_X2_48 : Cond.methodLink "RopeDance$Reader" (48 : Nat) ({ cls := "RopeDance$Tape", name := "scan", desc := "()V" } : Jvm.MethodName) ∈ lw_g := xg (xin_2 (List.mem_of_getElem? (i := 188) rfl)) rfl
theorem wf_X2_53 : Cond.fieldLink "RopeDance$Reader" (53 : Nat) "RopeDance$Tape" "kind" "I" ∈ lw_g := xg (xin_1 (List.mem_of_getElem? (i := 38) rfl)) rfl
theorem wn_X2 : Cond.initialized "RopeDance$Reader" ∈ lw_g := xg (xin_1 (List.mem_of_getElem? (i := 7) rfl)) rfl
theorem wk_X2_readTell : Cond.code ({ cls := "RopeDance$Reader", name := "readTell", desc := "(I)V" } : Jvm.MethodName) prog_4_method_7_code (2 : Nat) (Option.none : Option Jvm.ClassFile.FieldType) ∈ lw_g := xg (xin_3 (List.mem_of_getElem? (i := 104) rfl)) rfl
theorem MK_X2_readTell : MK yX2_readTell bX2_readTell 2 none 1 := ⟨wn_X2, wk_X2_readTell, ⟨by decide, by decide, by decide +kernel⟩, by decide⟩
theorem wi_X2_readTell : Cond.instanceMethod ({ cls := "RopeDance$Reader", name := "readTell", desc := "(I)V" } : Jvm.MethodName) ∈ lw_g := xg (xin_3 (List.mem_of_getElem? (i := 103) rfl)) rfl
theorem we_X2_readTell : Cond.selects "RopeDance$Reader" yX2_readTell yX2_readTell ∈ lw_g := xg (xip_1 (List.mem_of_getElem? (i := 6) rfl)) rfl
theorem wm_X2_56 : Cond.methodLink "RopeDance$Reader" (56 : Nat) ({ cls := "RopeDance$Reader", name := "readTell", desc := "(I)V" } : Jvm.MethodName) ∈ lw_g := xg (xin_3 (List.mem_of_getElem? (i := 101) rfl)) rfl
theorem wf_X2_60 : Cond.fieldLink "RopeDance$Reader" (60 : Nat) "RopeDance$Tape" "place" "I" ∈ lw_g := xg (xin_1 (List.mem_of_getElem? (i := 40) rfl)) rfl
theorem wk_X2_isAt : Cond.code ({ cls := "RopeDance$Reader", name := "isAt", desc := "(I)Z" } : Jvm.MethodName) prog_4_method_5_code (2 : Nat) (Option.some Jvm.ClassFile.FieldType.boolean) ∈ lw_g := xg (xin_3 (List.mem_of_getElem? (i := 132) rfl)) rfl
theorem MK_X2_isAt : MK yX2_isAt bX2_isAt 2 (some .boolean) 1 := ⟨wn_X2, wk_X2_isAt, ⟨by decide, by decide, by decide +kernel⟩, by decide⟩
theorem wi_X2_isAt : Cond.instanceMethod ({ cls := "RopeDance$Reader", name := "isAt", desc := "(I)Z" } : Jvm.MethodName) ∈ lw_g := xg (xin_3 (List.mem_of_getElem? (i := 131) rfl)) rfl
theorem we_X2_isAt : Cond.selects "RopeDance$Reader" yX2_isAt yX2_isAt ∈ lw_g := xg (xip_1 (List.mem_of_getElem? (i := 10) rfl)) rfl
theorem wm_X2_61 : Cond.methodLink "RopeDance$Reader" (61 : Nat) ({ cls := "RopeDance$Reader", name := "isAt", desc := "(I)Z" } : Jvm.MethodName) ∈ lw_g := xg (xin_3 (List.mem_of_getElem? (i := 129) rfl)) rfl
theorem wf_X2_68 : Cond.fieldLink "RopeDance$Reader" (68 : Nat) "RopeDance$Tape" "token" "I" ∈ lw_g := xg (xin_1 (List.mem_of_getElem? (i := 37) rfl)) rfl
theorem wk_X7_takeUp : Cond.code ({ cls := "RopeDance$Tape", name := "takeUp", desc := "(I)V" } : Jvm.MethodName) prog_9_method_5_code (2 : Nat) (Option.none : Option Jvm.ClassFile.FieldType) ∈ lw_g := xg (xin_3 (List.mem_of_getElem? (i := 100) rfl)) rfl
theorem MK_X7_takeUp : MK yX7_takeUp bX7_takeUp 2 none 1 := ⟨wn_X7, wk_X7_takeUp, ⟨by decide, by decide, by decide +kernel⟩, by decide⟩
theorem wi_X7_takeUp : Cond.instanceMethod ({ cls := "RopeDance$Tape", name := "takeUp", desc := "(I)V" } : Jvm.MethodName) ∈ lw_g := xg (xin_3 (List.mem_of_getElem? (i := 98) rfl)) rfl
theorem we_X7_takeUp : Cond.selects "RopeDance$Tape" yX7_takeUp yX7_takeUp ∈ lw_g := xg (xin_3 (List.mem_of_getElem? (i := 99) rfl)) rfl
theorem wm_X2_71 : Cond.methodLink "RopeDance$Reader" (71 : Nat) ({ cls := "RopeDance$Tape", name := "takeUp", desc := "(I)V" } : Jvm.MethodName) ∈ lw_g := xg (xin_3 (List.mem_of_getElem? (i := 133) rfl)) rfl
theorem wk_X2_fail : Cond.code ({ cls := "RopeDance$Reader", name := "fail", desc := "(I)V" } : Jvm.MethodName) prog_4_method_3_code (2 : Nat) (Option.none : Option Jvm.ClassFile.FieldType) ∈ lw_g := xg (xin_3 (List.mem_of_getElem? (i := 124) rfl)) rfl
theorem MK_X2_fail : MK yX2_fail bX2_fail 2 none 1 := ⟨wn_X2, wk_X2_fail, ⟨by decide, by decide, by decide +kernel⟩, by decide⟩
theorem wi_X2_fail : Cond.instanceMethod ({ cls := "RopeDance$Reader", name := "fail", desc := "(I)V" } : Jvm.MethodName) ∈ lw_g := xg (xin_3 (List.mem_of_getElem? (i := 123) rfl)) rfl
theorem we_X2_fail : Cond.selects "RopeDance$Reader" yX2_fail yX2_fail ∈ lw_g := xg (xip_1 (List.mem_of_getElem? (i := 8) rfl)) rfl
theorem wm_X2_65 : Cond.methodLink "RopeDance$Reader" (65 : Nat) ({ cls := "RopeDance$Reader", name := "fail", desc := "(I)V" } : Jvm.MethodName) ∈ lw_g := xg (xin_3 (List.mem_of_getElem? (i := 121) rfl)) rfl
theorem wk_X2_readSeed : Cond.code ({ cls := "RopeDance$Reader", name := "readSeed", desc := "()V" } : Jvm.MethodName) prog_4_method_12_code (1 : Nat) (Option.none : Option Jvm.ClassFile.FieldType) ∈ lw_g := xg (xin_3 (List.mem_of_getElem? (i := 229) rfl)) rfl
theorem MK_X2_readSeed : MK yX2_readSeed bX2_readSeed 1 none 0 := ⟨wn_X2, wk_X2_readSeed, ⟨by decide, by decide, by decide +kernel⟩, by decide⟩
theorem wi_X2_readSeed : Cond.instanceMethod ({ cls := "RopeDance$Reader", name := "readSeed", desc := "()V" } : Jvm.MethodName) ∈ lw_g := xg (xin_3 (List.mem_of_getElem? (i := 228) rfl)) rfl
theorem we_X2_readSeed : Cond.selects "RopeDance$Reader" yX2_readSeed yX2_readSeed ∈ lw_g := xg (xip_2 (List.mem_of_getElem? (i := 4) rfl)) rfl
theorem wm_X2_88 : Cond.methodLink "RopeDance$Reader" (88 : Nat) ({ cls := "RopeDance$Reader", name := "readSeed", desc := "()V" } : Jvm.MethodName) ∈ lw_g := xg (xin_3 (List.mem_of_getElem? (i := 226) rfl)) rfl
theorem wk_X2_readLaw : Cond.code ({ cls := "RopeDance$Reader", name := "readLaw", desc := "(I)V" } : Jvm.MethodName) prog_4_method_13_code (4 : Nat) (Option.none : Option Jvm.ClassFile.FieldType) ∈ lw_g := xg (xin_3 (List.mem_of_getElem? (i := 197) rfl)) rfl
theorem MK_X2_readLaw : MK yX2_readLaw bX2_readLaw 4 none 1 := ⟨wn_X2, wk_X2_readLaw, ⟨by decide, by decide, by decide +kernel⟩, by decide⟩
theorem wi_X2_readLaw : Cond.instanceMethod ({ cls := "RopeDance$Reader", name := "readLaw", desc := "(I)V" } : Jvm.MethodName) ∈ lw_g := xg (xin_3 (List.mem_of_getElem? (i := 196) rfl)) rfl
theorem we_X2_readLaw : Cond.selects "RopeDance$Reader" yX2_readLaw yX2_readLaw ∈ lw_g := xg (xip_1 (List.mem_of_getElem? (i := 15) rfl)) rfl
theorem wm_X2_85 : Cond.methodLink "RopeDance$Reader" (85 : Nat) ({ cls := "RopeDance$Reader", name := "readLaw", desc := "(I)V" } : Jvm.MethodName) ∈ lw_g := xg (xin_3 (List.mem_of_getElem? (i := 194) rfl)) rfl
theorem wk_X8_nextFigure : Cond.code ({ cls := "RopeDance$Text", name := "nextFigure", desc := "()LRopeDance$Row;" } : Jvm.MethodName) prog_10_method_5_code (2 : Nat) (Option.some (Jvm.ClassFile.FieldType.object "RopeDance$Row")) ∈ lw_g := xg (xin_3 (List.mem_of_getElem? (i := 193) rfl)) rfl
theorem MK_X8_nextFigure : MK yX8_nextFigure bX8_nextFigure 2 (some (.object "RopeDance$Row")) 0 := ⟨wn_X8, wk_X8_nextFigure, ⟨by decide, by decide, by decide +kernel⟩, by decide⟩
theorem wi_X8_nextFigure : Cond.instanceMethod ({ cls := "RopeDance$Text", name := "nextFigure", desc := "()LRopeDance$Row;" } : Jvm.MethodName) ∈ lw_g := xg (xin_3 (List.mem_of_getElem? (i := 191) rfl)) rfl
theorem we_X8_nextFigure : Cond.selects "RopeDance$Text" yX8_nextFigure yX8_nextFigure ∈ lw_g := xg (xin_3 (List.mem_of_getElem? (i := 192) rfl)) rfl
theorem wm_X2_82 : Cond.methodLink "RopeDance$Reader" (82 : Nat) ({ cls := "RopeDance$Text", name := "nextFigure", desc := "()LRopeDance$Row;" } : Jvm.MethodName) ∈ lw_g := xg (xin_3 (List.mem_of_getElem? (i := 190) rfl)) rfl
theorem wk_X2_readRow : Cond.code ({ cls := "RopeDance$Reader", name := "readRow", desc := "(ILRopeDance$Row;)V" } : Jvm.MethodName) prog_4_method_8_code (7 : Nat) (Option.none : Option Jvm.ClassFile.FieldType) ∈ lw_g := xg (xin_3 (List.mem_of_getElem? (i := 120) rfl)) rfl
theorem MK_X2_readRow : MK yX2_readRow bX2_readRow 7 none 2 := ⟨wn_X2, wk_X2_readRow, ⟨by decide, by decide, by decide +kernel⟩, by decide⟩
theorem wi_X2_readRow : Cond.instanceMethod ({ cls := "RopeDance$Reader", name := "readRow", desc := "(ILRopeDance$Row;)V" } : Jvm.MethodName) ∈ lw_g := xg (xin_3 (List.mem_of_getElem? (i := 119) rfl)) rfl
theorem we_X2_readRow : Cond.selects "RopeDance$Reader" yX2_readRow yX2_readRow ∈ lw_g := xg (xip_1 (List.mem_of_getElem? (i := 7) rfl)) rfl
theorem wm_X2_78 : Cond.methodLink "RopeDance$Reader" (78 : Nat) ({ cls := "RopeDance$Reader", name := "readRow", desc := "(ILRopeDance$Row;)V" } : Jvm.MethodName) ∈ lw_g := xg (xin_3 (List.mem_of_getElem? (i := 117) rfl)) rfl
theorem wk_X8_nextSquare : Cond.code ({ cls := "RopeDance$Text", name := "nextSquare", desc := "()LRopeDance$Row;" } : Jvm.MethodName) prog_10_method_4_code (2 : Nat) (Option.some (Jvm.ClassFile.FieldType.object "RopeDance$Row")) ∈ lw_g := xg (xin_3 (List.mem_of_getElem? (i := 108) rfl)) rfl
theorem MK_X8_nextSquare : MK yX8_nextSquare bX8_nextSquare 2 (some (.object "RopeDance$Row")) 0 := ⟨wn_X8, wk_X8_nextSquare, ⟨by decide, by decide, by decide +kernel⟩, by decide⟩
theorem wi_X8_nextSquare : Cond.instanceMethod ({ cls := "RopeDance$Text", name := "nextSquare", desc := "()LRopeDance$Row;" } : Jvm.MethodName) ∈ lw_g := xg (xin_3 (List.mem_of_getElem? (i := 106) rfl)) rfl
theorem we_X8_nextSquare : Cond.selects "RopeDance$Text" yX8_nextSquare yX8_nextSquare ∈ lw_g := xg (xin_3 (List.mem_of_getElem? (i := 107) rfl)) rfl
theorem wm_X2_74 : Cond.methodLink "RopeDance$Reader" (74 : Nat) ({ cls := "RopeDance$Text", name := "nextSquare", desc := "()LRopeDance$Row;" } : Jvm.MethodName) ∈ lw_g := xg (xin_3 (List.mem_of_getElem? (i := 105) rfl)) rfl
theorem wk_X2_take : Cond.code ({ cls := "RopeDance$Reader", name := "take", desc := "(I)V" } : Jvm.MethodName) prog_4_method_6_code (2 : Nat) (Option.none : Option Jvm.ClassFile.FieldType) ∈ lw_g := xg (xin_3 (List.mem_of_getElem? (i := 128) rfl)) rfl
theorem MK_X2_take : MK yX2_take bX2_take 2 none 1 := ⟨wn_X2, wk_X2_take, ⟨by decide, by decide, by decide +kernel⟩, by decide⟩
theorem wi_X2_take : Cond.instanceMethod ({ cls := "RopeDance$Reader", name := "take", desc := "(I)V" } : Jvm.MethodName) ∈ lw_g := xg (xin_3 (List.mem_of_getElem? (i := 127) rfl)) rfl
theorem we_X2_take : Cond.selects "RopeDance$Reader" yX2_take yX2_take ∈ lw_g := xg (xip_1 (List.mem_of_getElem? (i := 9) rfl)) rfl
theorem wm_X2_91 : Cond.methodLink "RopeDance$Reader" (91 : Nat) ({ cls := "RopeDance$Reader", name := "take", desc := "(I)V" } : Jvm.MethodName) ∈ lw_g := xg (xin_3 (List.mem_of_getElem? (i := 125) rfl)) rfl
theorem wf_X2_94 : Cond.fieldLink "RopeDance$Reader" (94 : Nat) "RopeDance$Tape" "name" "J" ∈ lw_g := xg (xin_1 (List.mem_of_getElem? (i := 45) rfl)) rfl
theorem wk_X2_suspectName : Cond.code ({ cls := "RopeDance$Reader", name := "suspectName", desc := "(JI)V" } : Jvm.MethodName) prog_4_method_9_code (4 : Nat) (Option.none : Option Jvm.ClassFile.FieldType) ∈ lw_g := xg (xin_3 (List.mem_of_getElem? (i := 161) rfl)) rfl
theorem MK_X2_suspectName : MK yX2_suspectName bX2_suspectName 4 none 2 := ⟨wn_X2, wk_X2_suspectName, ⟨by decide, by decide, by decide +kernel⟩, by decide⟩
theorem wi_X2_suspectName : Cond.instanceMethod ({ cls := "RopeDance$Reader", name := "suspectName", desc := "(JI)V" } : Jvm.MethodName) ∈ lw_g := xg (xin_3 (List.mem_of_getElem? (i := 160) rfl)) rfl
theorem we_X2_suspectName : Cond.selects "RopeDance$Reader" yX2_suspectName yX2_suspectName ∈ lw_g := xg (xip_1 (List.mem_of_getElem? (i := 13) rfl)) rfl
theorem wm_X2_107 : Cond.methodLink "RopeDance$Reader" (107 : Nat) ({ cls := "RopeDance$Reader", name := "suspectName", desc := "(JI)V" } : Jvm.MethodName) ∈ lw_g := xg (xin_3 (List.mem_of_getElem? (i := 158) rfl)) rfl
theorem wf_X2_26 : Cond.fieldLink "RopeDance$Reader" (26 : Nat) "RopeDance$Reader" "made" "LRopeDance$Square;" ∈ lw_g := xg (xin_2 (List.mem_of_getElem? (i := 12) rfl)) rfl
theorem wm_X2_111 : Cond.methodLink "RopeDance$Reader" (111 : Nat) ({ cls := "RopeDance$Square", name := "letGo", desc := "()V" } : Jvm.MethodName) ∈ lw_g := xg (xin_3 (List.mem_of_getElem? (i := 170) rfl)) rfl
theorem wf_X2_114 : Cond.fieldLink "RopeDance$Reader" (114 : Nat) "RopeDance$Row" "length" "I" ∈ lw_g := xg (xin_1 (List.mem_of_getElem? (i := 113) rfl)) rfl
theorem wm_X2_117 : Cond.methodLink "RopeDance$Reader" (117 : Nat) ({ cls := "RopeDance$Row", name := "makes", desc := "(LRopeDance$Square;I)Z" } : Jvm.MethodName) ∈ lw_g := xg (xin_3 (List.mem_of_getElem? (i := 174) rfl)) rfl
theorem wk_X2_suspect : Cond.code ({ cls := "RopeDance$Reader", name := "suspect", desc := "(II)V" } : Jvm.MethodName) prog_4_method_4_code (3 : Nat) (Option.none : Option Jvm.ClassFile.FieldType) ∈ lw_g := xg (xin_3 (List.mem_of_getElem? (i := 148) rfl)) rfl
theorem MK_X2_suspect : MK yX2_suspect bX2_suspect 3 none 2 := ⟨wn_X2, wk_X2_suspect, ⟨by decide, by decide, by decide +kernel⟩, by decide⟩
theorem wi_X2_suspect : Cond.instanceMethod ({ cls := "RopeDance$Reader", name := "suspect", desc := "(II)V" } : Jvm.MethodName) ∈ lw_g := xg (xin_3 (List.mem_of_getElem? (i := 147) rfl)) rfl
theorem we_X2_suspect : Cond.selects "RopeDance$Reader" yX2_suspect yX2_suspect ∈ lw_g := xg (xip_1 (List.mem_of_getElem? (i := 12) rfl)) rfl
theorem wm_X2_121 : Cond.methodLink "RopeDance$Reader" (121 : Nat) ({ cls := "RopeDance$Reader", name := "suspect", desc := "(II)V" } : Jvm.MethodName) ∈ lw_g := xg (xin_3 (List.mem_of_getElem? (i := 145) rfl)) rfl
theorem wk_X2_isMove : Cond.code ({ cls := "RopeDance$Reader", name := "isMove", desc := "(I)Z" } : Jvm.MethodName) prog_4_method_10_code (1 : Nat) (Option.some Jvm.ClassFile.FieldType.boolean) ∈ lw_g := xg (xin_3 (List.mem_of_getElem? (i := 136) rfl)) rfl
theorem MK_X2_isMove : MK yX2_isMove bX2_isMove 1 (some .boolean) 1 := ⟨wn_X2, wk_X2_isMove, ⟨by decide, by decide, by decide +kernel⟩, by decide⟩
theorem ws_X2_isMove : Cond.static ({ cls := "RopeDance$Reader", name := "isMove", desc := "(I)Z" } : Jvm.MethodName) ∈ lw_g := xg (xin_3 (List.mem_of_getElem? (i := 135) rfl)) rfl
theorem wm_X2_100 : Cond.methodLink "RopeDance$Reader" (100 : Nat) ({ cls := "RopeDance$Reader", name := "isMove", desc := "(I)Z" } : Jvm.MethodName) ∈ lw_g := xg (xin_3 (List.mem_of_getElem? (i := 134) rfl)) rfl
theorem wk_X2_readMove : Cond.code ({ cls := "RopeDance$Reader", name := "readMove", desc := "(LRopeDance$Row;)V" } : Jvm.MethodName) prog_4_method_11_code (5 : Nat) (Option.none : Option Jvm.ClassFile.FieldType) ∈ lw_g := xg (xin_3 (List.mem_of_getElem? (i := 140) rfl)) rfl
theorem MK_X2_readMove : MK yX2_readMove bX2_readMove 5 none 1 := ⟨wn_X2, wk_X2_readMove, ⟨by decide, by decide, by decide +kernel⟩, by decide⟩
theorem wi_X2_readMove : Cond.instanceMethod ({ cls := "RopeDance$Reader", name := "readMove", desc := "(LRopeDance$Row;)V" } : Jvm.MethodName) ∈ lw_g := xg (xin_3 (List.mem_of_getElem? (i := 139) rfl)) rfl
theorem we_X2_readMove : Cond.selects "RopeDance$Reader" yX2_readMove yX2_readMove ∈ lw_g := xg (xip_1 (List.mem_of_getElem? (i := 11) rfl)) rfl
theorem wm_X2_103 : Cond.methodLink "RopeDance$Reader" (103 : Nat) ({ cls := "RopeDance$Reader", name := "readMove", desc := "(LRopeDance$Row;)V" } : Jvm.MethodName) ∈ lw_g := xg (xin_3 (List.mem_of_getElem? (i := 137) rfl)) rfl
theorem wk_X8_isTold : Cond.code ({ cls := "RopeDance$Text", name := "isTold", desc := "(J)Z" } : Jvm.MethodName) prog_10_method_6_code (4 : Nat) (Option.some Jvm.ClassFile.FieldType.boolean) ∈ lw_g := xg (xin_3 (List.mem_of_getElem? (i := 165) rfl)) rfl
theorem MK_X8_isTold : MK yX8_isTold bX8_isTold 4 (some .boolean) 1 := ⟨wn_X8, wk_X8_isTold, ⟨by decide, by decide, by decide +kernel⟩, by decide⟩
theorem wi_X8_isTold : Cond.instanceMethod ({ cls := "RopeDance$Text", name := "isTold", desc := "(J)Z" } : Jvm.MethodName) ∈ lw_g := xg (xin_3 (List.mem_of_getElem? (i := 163) rfl)) rfl
theorem we_X8_isTold : Cond.selects "RopeDance$Text" yX8_isTold yX8_isTold ∈ lw_g := xg (xin_3 (List.mem_of_getElem? (i := 164) rfl)) rfl
theorem wm_X2_125 : Cond.methodLink "RopeDance$Reader" (125 : Nat) ({ cls := "RopeDance$Text", name := "isTold", desc := "(J)Z" } : Jvm.MethodName) ∈ lw_g := xg (xin_3 (List.mem_of_getElem? (i := 162) rfl)) rfl
theorem wk_X8_addName : Cond.code ({ cls := "RopeDance$Text", name := "addName", desc := "(J)V" } : Jvm.MethodName) prog_10_method_7_code (3 : Nat) (Option.none : Option Jvm.ClassFile.FieldType) ∈ lw_g := xg (xin_3 (List.mem_of_getElem? (i := 169) rfl)) rfl
theorem MK_X8_addName : MK yX8_addName bX8_addName 3 none 1 := ⟨wn_X8, wk_X8_addName, ⟨by decide, by decide, by decide +kernel⟩, by decide⟩
theorem wi_X8_addName : Cond.instanceMethod ({ cls := "RopeDance$Text", name := "addName", desc := "(J)V" } : Jvm.MethodName) ∈ lw_g := xg (xin_3 (List.mem_of_getElem? (i := 167) rfl)) rfl
theorem we_X8_addName : Cond.selects "RopeDance$Text" yX8_addName yX8_addName ∈ lw_g := xg (xin_3 (List.mem_of_getElem? (i := 168) rfl)) rfl
theorem wm_X2_129 : Cond.methodLink "RopeDance$Reader" (129 : Nat) ({ cls := "RopeDance$Text", name := "addName", desc := "(J)V" } : Jvm.MethodName) ∈ lw_g := xg (xin_3 (List.mem_of_getElem? (i := 166) rfl)) rfl
theorem wk_X3_isFull : Cond.code ({ cls := "RopeDance$Row", name := "isFull", desc := "()Z" } : Jvm.MethodName) prog_5_method_3_code (1 : Nat) (Option.some Jvm.ClassFile.FieldType.boolean) ∈ lw_g := xg (xin_3 (List.mem_of_getElem? (i := 144) rfl)) rfl
theorem MK_X3_isFull : MK yX3_isFull bX3_isFull 1 (some .boolean) 0 := ⟨wn_X3, wk_X3_isFull, ⟨by decide, by decide, by decide +kernel⟩, by decide⟩
theorem wi_X3_isFull : Cond.instanceMethod ({ cls := "RopeDance$Row", name := "isFull", desc := "()Z" } : Jvm.MethodName) ∈ lw_g := xg (xin_3 (List.mem_of_getElem? (i := 142) rfl)) rfl
theorem we_X3_isFull : Cond.selects "RopeDance$Row" yX3_isFull yX3_isFull ∈ lw_g := xg (xin_3 (List.mem_of_getElem? (i := 143) rfl)) rfl
theorem wm_X2_133 : Cond.methodLink "RopeDance$Reader" (133 : Nat) ({ cls := "RopeDance$Row", name := "isFull", desc := "()Z" } : Jvm.MethodName) ∈ lw_g := xg (xin_3 (List.mem_of_getElem? (i := 141) rfl)) rfl
theorem wk_X3_add : Cond.code ({ cls := "RopeDance$Row", name := "add", desc := "(II)V" } : Jvm.MethodName) prog_5_method_4_code (3 : Nat) (Option.none : Option Jvm.ClassFile.FieldType) ∈ lw_g := xg (xin_3 (List.mem_of_getElem? (i := 152) rfl)) rfl
theorem MK_X3_add : MK yX3_add bX3_add 3 none 2 := ⟨wn_X3, wk_X3_add, ⟨by decide, by decide, by decide +kernel⟩, by decide⟩
theorem wi_X3_add : Cond.instanceMethod ({ cls := "RopeDance$Row", name := "add", desc := "(II)V" } : Jvm.MethodName) ∈ lw_g := xg (xin_3 (List.mem_of_getElem? (i := 150) rfl)) rfl
theorem we_X3_add : Cond.selects "RopeDance$Row" yX3_add yX3_add ∈ lw_g := xg (xin_3 (List.mem_of_getElem? (i := 151) rfl)) rfl
theorem wm_X2_140 : Cond.methodLink "RopeDance$Reader" (140 : Nat) ({ cls := "RopeDance$Row", name := "add", desc := "(II)V" } : Jvm.MethodName) ∈ lw_g := xg (xin_3 (List.mem_of_getElem? (i := 149) rfl)) rfl
theorem wf_X2_137 : Cond.fieldLink "RopeDance$Reader" (137 : Nat) "RopeDance$Tape" "value" "I" ∈ lw_g := xg (xin_1 (List.mem_of_getElem? (i := 43) rfl)) rfl
theorem wf_X2_143 : Cond.fieldLink "RopeDance$Reader" (143 : Nat) "RopeDance$Text" "seed" "I" ∈ lw_g := xg (xin_1 (List.mem_of_getElem? (i := 190) rfl)) rfl
theorem wk_X8_beginLaw : Cond.code ({ cls := "RopeDance$Text", name := "beginLaw", desc := "(I)V" } : Jvm.MethodName) prog_10_method_8_code (2 : Nat) (Option.none : Option Jvm.ClassFile.FieldType) ∈ lw_g := xg (xin_1 (List.mem_of_getElem? (i := 176) rfl)) rfl
theorem MK_X8_beginLaw : MK yX8_beginLaw bX8_beginLaw 2 none 1 := ⟨wn_X8, wk_X8_beginLaw, ⟨by decide, by decide, by decide +kernel⟩, by decide⟩
theorem wi_X8_beginLaw : Cond.instanceMethod ({ cls := "RopeDance$Text", name := "beginLaw", desc := "(I)V" } : Jvm.MethodName) ∈ lw_g := xg (xin_1 (List.mem_of_getElem? (i := 174) rfl)) rfl
theorem we_X8_beginLaw : Cond.selects "RopeDance$Text" yX8_beginLaw yX8_beginLaw ∈ lw_g := xg (xin_1 (List.mem_of_getElem? (i := 175) rfl)) rfl
theorem wm_X2_146 : Cond.methodLink "RopeDance$Reader" (146 : Nat) ({ cls := "RopeDance$Text", name := "beginLaw", desc := "(I)V" } : Jvm.MethodName) ∈ lw_g := xg (xin_3 (List.mem_of_getElem? (i := 198) rfl)) rfl
theorem wk_X2_readSum : Cond.code ({ cls := "RopeDance$Reader", name := "readSum", desc := "()V" } : Jvm.MethodName) prog_4_method_14_code (4 : Nat) (Option.none : Option Jvm.ClassFile.FieldType) ∈ lw_g := xg (xin_3 (List.mem_of_getElem? (i := 202) rfl)) rfl
theorem MK_X2_readSum : MK yX2_readSum bX2_readSum 4 none 0 := ⟨wn_X2, wk_X2_readSum, ⟨by decide, by decide, by decide +kernel⟩, by decide⟩
theorem wi_X2_readSum : Cond.instanceMethod ({ cls := "RopeDance$Reader", name := "readSum", desc := "()V" } : Jvm.MethodName) ∈ lw_g := xg (xin_3 (List.mem_of_getElem? (i := 201) rfl)) rfl
theorem we_X2_readSum : Cond.selects "RopeDance$Reader" yX2_readSum yX2_readSum ∈ lw_g := xg (xip_2 (List.mem_of_getElem? (i := 0) rfl)) rfl
theorem wm_X2_149 : Cond.methodLink "RopeDance$Reader" (149 : Nat) ({ cls := "RopeDance$Reader", name := "readSum", desc := "()V" } : Jvm.MethodName) ∈ lw_g := xg (xin_3 (List.mem_of_getElem? (i := 199) rfl)) rfl
theorem wk_X8_addCode : Cond.code ({ cls := "RopeDance$Text", name := "addCode", desc := "(I)V" } : Jvm.MethodName) prog_10_method_9_code (2 : Nat) (Option.none : Option Jvm.ClassFile.FieldType) ∈ lw_g := xg (xin_1 (List.mem_of_getElem? (i := 180) rfl)) rfl
theorem MK_X8_addCode : MK yX8_addCode bX8_addCode 2 none 1 := ⟨wn_X8, wk_X8_addCode, ⟨by decide, by decide, by decide +kernel⟩, by decide⟩
theorem wi_X8_addCode : Cond.instanceMethod ({ cls := "RopeDance$Text", name := "addCode", desc := "(I)V" } : Jvm.MethodName) ∈ lw_g := xg (xin_1 (List.mem_of_getElem? (i := 178) rfl)) rfl
theorem we_X8_addCode : Cond.selects "RopeDance$Text" yX8_addCode yX8_addCode ∈ lw_g := xg (xin_1 (List.mem_of_getElem? (i := 179) rfl)) rfl
theorem wm_X2_156 : Cond.methodLink "RopeDance$Reader" (156 : Nat) ({ cls := "RopeDance$Text", name := "addCode", desc := "(I)V" } : Jvm.MethodName) ∈ lw_g := xg (xin_3 (List.mem_of_getElem? (i := 211) rfl)) rfl
theorem wk_X8_addUnless : Cond.code ({ cls := "RopeDance$Text", name := "addUnless", desc := "()I" } : Jvm.MethodName) prog_10_method_10_code (1 : Nat) (Option.some Jvm.ClassFile.FieldType.int) ∈ lw_g := xg (xin_3 (List.mem_of_getElem? (i := 221) rfl)) rfl
theorem MK_X8_addUnless : MK yX8_addUnless bX8_addUnless 1 (some .int) 0 := ⟨wn_X8, wk_X8_addUnless, ⟨by decide, by decide, by decide +kernel⟩, by decide⟩
theorem wi_X8_addUnless : Cond.instanceMethod ({ cls := "RopeDance$Text", name := "addUnless", desc := "()I" } : Jvm.MethodName) ∈ lw_g := xg (xin_3 (List.mem_of_getElem? (i := 219) rfl)) rfl
theorem we_X8_addUnless : Cond.selects "RopeDance$Text" yX8_addUnless yX8_addUnless ∈ lw_g := xg (xin_3 (List.mem_of_getElem? (i := 220) rfl)) rfl
theorem wm_X2_152 : Cond.methodLink "RopeDance$Reader" (152 : Nat) ({ cls := "RopeDance$Text", name := "addUnless", desc := "()I" } : Jvm.MethodName) ∈ lw_g := xg (xin_3 (List.mem_of_getElem? (i := 218) rfl)) rfl
theorem wk_X8_sendHere : Cond.code ({ cls := "RopeDance$Text", name := "sendHere", desc := "(I)V" } : Jvm.MethodName) prog_10_method_11_code (2 : Nat) (Option.none : Option Jvm.ClassFile.FieldType) ∈ lw_g := xg (xin_3 (List.mem_of_getElem? (i := 225) rfl)) rfl
theorem MK_X8_sendHere : MK yX8_sendHere bX8_sendHere 2 none 1 := ⟨wn_X8, wk_X8_sendHere, ⟨by decide, by decide, by decide +kernel⟩, by decide⟩
theorem wi_X8_sendHere : Cond.instanceMethod ({ cls := "RopeDance$Text", name := "sendHere", desc := "(I)V" } : Jvm.MethodName) ∈ lw_g := xg (xin_3 (List.mem_of_getElem? (i := 223) rfl)) rfl
theorem we_X8_sendHere : Cond.selects "RopeDance$Text" yX8_sendHere yX8_sendHere ∈ lw_g := xg (xin_3 (List.mem_of_getElem? (i := 224) rfl)) rfl
theorem wm_X2_159 : Cond.methodLink "RopeDance$Reader" (159 : Nat) ({ cls := "RopeDance$Text", name := "sendHere", desc := "(I)V" } : Jvm.MethodName) ∈ lw_g := xg (xin_3 (List.mem_of_getElem? (i := 222) rfl)) rfl
theorem wf_X2_162 : Cond.fieldLink "RopeDance$Reader" (162 : Nat) "RopeDance$Reader" "waits" "I" ∈ lw_g := xg (xin_2 (List.mem_of_getElem? (i := 10) rfl)) rfl
theorem wf_X2_165 : Cond.fieldLink "RopeDance$Reader" (165 : Nat) "RopeDance$Reader" "open" "I" ∈ lw_g := xg (xin_2 (List.mem_of_getElem? (i := 11) rfl)) rfl
theorem wk_X2_releaseDownTo : Cond.code ({ cls := "RopeDance$Reader", name := "releaseDownTo", desc := "(I)V" } : Jvm.MethodName) prog_4_method_17_code (3 : Nat) (Option.none : Option Jvm.ClassFile.FieldType) ∈ lw_g := xg (xin_3 (List.mem_of_getElem? (i := 215) rfl)) rfl
theorem MK_X2_releaseDownTo : MK yX2_releaseDownTo bX2_releaseDownTo 3 none 1 := ⟨wn_X2, wk_X2_releaseDownTo, ⟨by decide, by decide, by decide +kernel⟩, by decide⟩
theorem wi_X2_releaseDownTo : Cond.instanceMethod ({ cls := "RopeDance$Reader", name := "releaseDownTo", desc := "(I)V" } : Jvm.MethodName) ∈ lw_g := xg (xin_3 (List.mem_of_getElem? (i := 214) rfl)) rfl
theorem we_X2_releaseDownTo : Cond.selects "RopeDance$Reader" yX2_releaseDownTo yX2_releaseDownTo ∈ lw_g := xg (xip_2 (List.mem_of_getElem? (i := 3) rfl)) rfl
theorem wm_X2_171 : Cond.methodLink "RopeDance$Reader" (171 : Nat) ({ cls := "RopeDance$Reader", name := "releaseDownTo", desc := "(I)V" } : Jvm.MethodName) ∈ lw_g := xg (xin_3 (List.mem_of_getElem? (i := 212) rfl)) rfl
theorem wm_X2_177 : Cond.methodLink "RopeDance$Reader" (177 : Nat) ({ cls := "java/lang/Math", name := "max", desc := "(II)I" } : Jvm.MethodName) ∈ lw_g := xg (xin_3 (List.mem_of_getElem? (i := 217) rfl)) rfl
theorem wk_X2_addWaiting : Cond.code ({ cls := "RopeDance$Reader", name := "addWaiting", desc := "(I)V" } : Jvm.MethodName) prog_4_method_16_code (2 : Nat) (Option.none : Option Jvm.ClassFile.FieldType) ∈ lw_g := xg (xin_3 (List.mem_of_getElem? (i := 210) rfl)) rfl
theorem MK_X2_addWaiting : MK yX2_addWaiting bX2_addWaiting 2 none 1 := ⟨wn_X2, wk_X2_addWaiting, ⟨by decide, by decide, by decide +kernel⟩, by decide⟩
theorem wi_X2_addWaiting : Cond.instanceMethod ({ cls := "RopeDance$Reader", name := "addWaiting", desc := "(I)V" } : Jvm.MethodName) ∈ lw_g := xg (xin_3 (List.mem_of_getElem? (i := 209) rfl)) rfl
theorem we_X2_addWaiting : Cond.selects "RopeDance$Reader" yX2_addWaiting yX2_addWaiting ∈ lw_g := xg (xip_2 (List.mem_of_getElem? (i := 2) rfl)) rfl
theorem wm_X2_174 : Cond.methodLink "RopeDance$Reader" (174 : Nat) ({ cls := "RopeDance$Reader", name := "addWaiting", desc := "(I)V" } : Jvm.MethodName) ∈ lw_g := xg (xin_3 (List.mem_of_getElem? (i := 207) rfl)) rfl
theorem wk_X2_readUnit : Cond.code ({ cls := "RopeDance$Reader", name := "readUnit", desc := "(I)V" } : Jvm.MethodName) prog_4_method_15_code (2 : Nat) (Option.none : Option Jvm.ClassFile.FieldType) ∈ lw_g := xg (xin_3 (List.mem_of_getElem? (i := 206) rfl)) rfl
theorem MK_X2_readUnit : MK yX2_readUnit bX2_readUnit 2 none 1 := ⟨wn_X2, wk_X2_readUnit, ⟨by decide, by decide, by decide +kernel⟩, by decide⟩
theorem wi_X2_readUnit : Cond.instanceMethod ({ cls := "RopeDance$Reader", name := "readUnit", desc := "(I)V" } : Jvm.MethodName) ∈ lw_g := xg (xin_3 (List.mem_of_getElem? (i := 205) rfl)) rfl
theorem we_X2_readUnit : Cond.selects "RopeDance$Reader" yX2_readUnit yX2_readUnit ∈ lw_g := xg (xip_2 (List.mem_of_getElem? (i := 1) rfl)) rfl
theorem wm_X2_168 : Cond.methodLink "RopeDance$Reader" (168 : Nat) ({ cls := "RopeDance$Reader", name := "readUnit", desc := "(I)V" } : Jvm.MethodName) ∈ lw_g := xg (xin_3 (List.mem_of_getElem? (i := 203) rfl)) rfl
theorem wf_X2_19 : Cond.fieldLink "RopeDance$Reader" (19 : Nat) "RopeDance$Reader" "waiting" "[I" ∈ lw_g := xg (xin_2 (List.mem_of_getElem? (i := 9) rfl)) rfl
theorem wm_X2_183 : Cond.methodLink "RopeDance$Reader" (183 : Nat) ({ cls := "java/lang/Math", name := "min", desc := "(II)I" } : Jvm.MethodName) ∈ lw_g := xg (xin_3 (List.mem_of_getElem? (i := 216) rfl)) rfl
theorem wf_X3_23 : Cond.fieldLink "RopeDance$Row" (23 : Nat) "RopeDance$Row" "length" "I" ∈ lw_g := xg (xin_1 (List.mem_of_getElem? (i := 109) rfl)) rfl
theorem wf_X3_10 : Cond.fieldLink "RopeDance$Row" (10 : Nat) "RopeDance$Row" "table" "LRopeDance$Table;" ∈ lw_g := xg (xin_1 (List.mem_of_getElem? (i := 115) rfl)) rfl
theorem wn_X6 : Cond.initialized "RopeDance$Table" ∈ lw_g := xg (xin_1 (List.mem_of_getElem? (i := 5) rfl)) rfl
theorem wk_X6_clear : Cond.code ({ cls := "RopeDance$Table", name := "clear", desc := "()V" } : Jvm.MethodName) prog_8_method_2_code (1 : Nat) (Option.none : Option Jvm.ClassFile.FieldType) ∈ lw_g := xg (xin_3 (List.mem_of_getElem? (i := 116) rfl)) rfl
theorem MK_X6_clear : MK yX6_clear bX6_clear 1 none 0 := ⟨wn_X6, wk_X6_clear, ⟨by decide, by decide, by decide +kernel⟩, by decide⟩
theorem wi_X6_clear : Cond.instanceMethod ({ cls := "RopeDance$Table", name := "clear", desc := "()V" } : Jvm.MethodName) ∈ lw_g := xg (xin_3 (List.mem_of_getElem? (i := 114) rfl)) rfl
theorem we_X6_clear : Cond.selects "RopeDance$Table" yX6_clear yX6_clear ∈ lw_g := xg (xin_3 (List.mem_of_getElem? (i := 115) rfl)) rfl
theorem wm_X3_27 : Cond.methodLink "RopeDance$Row" (27 : Nat) ({ cls := "RopeDance$Table", name := "clear", desc := "()V" } : Jvm.MethodName) ∈ lw_g := xg (xin_3 (List.mem_of_getElem? (i := 113) rfl)) rfl
theorem wm_X3_30 : Cond.methodLink "RopeDance$Row" (30 : Nat) ({ cls := "RopeDance$Row", name := "isFull", desc := "()Z" } : Jvm.MethodName) ∈ lw_g := xg (xin_3 (List.mem_of_getElem? (i := 153) rfl)) rfl
theorem wf_X3_16 : Cond.fieldLink "RopeDance$Row" (16 : Nat) "RopeDance$Row" "whats" "[I" ∈ lw_g := xg (xin_1 (List.mem_of_getElem? (i := 117) rfl)) rfl
theorem wf_X3_20 : Cond.fieldLink "RopeDance$Row" (20 : Nat) "RopeDance$Row" "twists" "[I" ∈ lw_g := xg (xin_1 (List.mem_of_getElem? (i := 118) rfl)) rfl
theorem wk_X6_addMove : Cond.code ({ cls := "RopeDance$Table", name := "addMove", desc := "(II)V" } : Jvm.MethodName) prog_8_method_3_code (5 : Nat) (Option.none : Option Jvm.ClassFile.FieldType) ∈ lw_g := xg (xin_3 (List.mem_of_getElem? (i := 157) rfl)) rfl
theorem MK_X6_addMove : MK yX6_addMove bX6_addMove 5 none 2 := ⟨wn_X6, wk_X6_addMove, ⟨by decide, by decide, by decide +kernel⟩, by decide⟩
theorem wi_X6_addMove : Cond.instanceMethod ({ cls := "RopeDance$Table", name := "addMove", desc := "(II)V" } : Jvm.MethodName) ∈ lw_g := xg (xin_3 (List.mem_of_getElem? (i := 155) rfl)) rfl
theorem we_X6_addMove : Cond.selects "RopeDance$Table" yX6_addMove yX6_addMove ∈ lw_g := xg (xin_3 (List.mem_of_getElem? (i := 156) rfl)) rfl
theorem wm_X3_34 : Cond.methodLink "RopeDance$Row" (34 : Nat) ({ cls := "RopeDance$Table", name := "addMove", desc := "(II)V" } : Jvm.MethodName) ∈ lw_g := xg (xin_3 (List.mem_of_getElem? (i := 154) rfl)) rfl
theorem wm_X3_38 : Cond.methodLink "RopeDance$Row" (38 : Nat) ({ cls := "java/lang/Math", name := "min", desc := "(II)I" } : Jvm.MethodName) ∈ lw_g := xg (xin_3 (List.mem_of_getElem? (i := 178) rfl)) rfl
theorem wk_X5_makes : Cond.code ({ cls := "RopeDance$Square", name := "makes", desc := "(II)Z" } : Jvm.MethodName) prog_7_method_8_code (4 : Nat) (Option.some Jvm.ClassFile.FieldType.boolean) ∈ lw_g := xg (xin_3 (List.mem_of_getElem? (i := 182) rfl)) rfl
theorem MK_X5_makes : MK yX5_makes bX5_makes 4 (some .boolean) 2 := ⟨wn_X5, wk_X5_makes, ⟨by decide, by decide, by decide +kernel⟩, by decide⟩
theorem wi_X5_makes : Cond.instanceMethod ({ cls := "RopeDance$Square", name := "makes", desc := "(II)Z" } : Jvm.MethodName) ∈ lw_g := xg (xin_3 (List.mem_of_getElem? (i := 180) rfl)) rfl
theorem we_X5_makes : Cond.selects "RopeDance$Square" yX5_makes yX5_makes ∈ lw_g := xg (xin_3 (List.mem_of_getElem? (i := 181) rfl)) rfl
theorem wm_X3_44 : Cond.methodLink "RopeDance$Row" (44 : Nat) ({ cls := "RopeDance$Square", name := "makes", desc := "(II)Z" } : Jvm.MethodName) ∈ lw_g := xg (xin_3 (List.mem_of_getElem? (i := 179) rfl)) rfl
theorem wk_X5_isTangle : Cond.code ({ cls := "RopeDance$Square", name := "isTangle", desc := "(I)Z" } : Jvm.MethodName) prog_7_method_2_code (1 : Nat) (Option.some Jvm.ClassFile.FieldType.boolean) ∈ lw_g := xg (xin_3 (List.mem_of_getElem? (i := 189) rfl)) rfl
theorem MK_X5_isTangle : MK yX5_isTangle bX5_isTangle 1 (some .boolean) 1 := ⟨wn_X5, wk_X5_isTangle, ⟨by decide, by decide, by decide +kernel⟩, by decide⟩
theorem ws_X5_isTangle : Cond.static ({ cls := "RopeDance$Square", name := "isTangle", desc := "(I)Z" } : Jvm.MethodName) ∈ lw_g := xg (xin_3 (List.mem_of_getElem? (i := 188) rfl)) rfl
theorem wm_X4_31 : Cond.methodLink "RopeDance$Search" (31 : Nat) ({ cls := "RopeDance$Square", name := "isTangle", desc := "(I)Z" } : Jvm.MethodName) ∈ lw_g := xg (xin_4 (List.mem_of_getElem? (i := 218) rfl)) rfl
theorem wf_X4_27 : Cond.fieldLink "RopeDance$Search" (27 : Nat) "RopeDance$Search" "start" "I" ∈ lw_g := xg (xin_4 (List.mem_of_getElem? (i := 233) rfl)) rfl
theorem wf_X4_35 : Cond.fieldLink "RopeDance$Search" (35 : Nat) "RopeDance$Square" "p" "I" ∈ lw_g := xg (xin_1 (List.mem_of_getElem? (i := 136) rfl)) rfl
theorem wf_X4_38 : Cond.fieldLink "RopeDance$Search" (38 : Nat) "RopeDance$Square" "q" "I" ∈ lw_g := xg (xin_1 (List.mem_of_getElem? (i := 143) rfl)) rfl
theorem wn_X4 : Cond.initialized "RopeDance$Search" ∈ lw_g := xg (xin_1 (List.mem_of_getElem? (i := 19) rfl)) rfl
theorem wk_X4_number : Cond.code ({ cls := "RopeDance$Search", name := "number", desc := "(II)I" } : Jvm.MethodName) prog_6_method_2_code (3 : Nat) (Option.some Jvm.ClassFile.FieldType.int) ∈ lw_g := xg (xin_4 (List.mem_of_getElem? (i := 217) rfl)) rfl
theorem MK_X4_number : MK yX4_number bX4_number 3 (some .int) 2 := ⟨wn_X4, wk_X4_number, ⟨by decide, by decide, by decide +kernel⟩, by decide⟩
theorem ws_X4_number : Cond.static ({ cls := "RopeDance$Search", name := "number", desc := "(II)I" } : Jvm.MethodName) ∈ lw_g := xg (xin_4 (List.mem_of_getElem? (i := 216) rfl)) rfl
theorem wm_X4_41 : Cond.methodLink "RopeDance$Search" (41 : Nat) ({ cls := "RopeDance$Search", name := "number", desc := "(II)I" } : Jvm.MethodName) ∈ lw_g := xg (xin_5 (List.mem_of_getElem? (i := 12) rfl)) rfl
theorem wk_X4_forgetFound : Cond.code ({ cls := "RopeDance$Search", name := "forgetFound", desc := "()V" } : Jvm.MethodName) prog_6_method_5_code (2 : Nat) (Option.none : Option Jvm.ClassFile.FieldType) ∈ lw_g := xg (xin_5 (List.mem_of_getElem? (i := 16) rfl)) rfl
theorem MK_X4_forgetFound : MK yX4_forgetFound bX4_forgetFound 2 none 0 := ⟨wn_X4, wk_X4_forgetFound, ⟨by decide, by decide, by decide +kernel⟩, by decide⟩
theorem wi_X4_forgetFound : Cond.instanceMethod ({ cls := "RopeDance$Search", name := "forgetFound", desc := "()V" } : Jvm.MethodName) ∈ lw_g := xg (xin_5 (List.mem_of_getElem? (i := 15) rfl)) rfl
theorem we_X4_forgetFound : Cond.selects "RopeDance$Search" yX4_forgetFound yX4_forgetFound ∈ lw_g := xg (xip_2 (List.mem_of_getElem? (i := 14) rfl)) rfl
theorem wm_X4_45 : Cond.methodLink "RopeDance$Search" (45 : Nat) ({ cls := "RopeDance$Search", name := "forgetFound", desc := "()V" } : Jvm.MethodName) ∈ lw_g := xg (xin_5 (List.mem_of_getElem? (i := 13) rfl)) rfl
theorem wk_X4_add : Cond.code ({ cls := "RopeDance$Search", name := "add", desc := "(II)V" } : Jvm.MethodName) prog_6_method_6_code (3 : Nat) (Option.none : Option Jvm.ClassFile.FieldType) ∈ lw_g := xg (xin_5 (List.mem_of_getElem? (i := 20) rfl)) rfl
theorem MK_X4_add : MK yX4_add bX4_add 3 none 2 := ⟨wn_X4, wk_X4_add, ⟨by decide, by decide, by decide +kernel⟩, by decide⟩
theorem wi_X4_add : Cond.instanceMethod ({ cls := "RopeDance$Search", name := "add", desc := "(II)V" } : Jvm.MethodName) ∈ lw_g := xg (xin_5 (List.mem_of_getElem? (i := 19) rfl)) rfl
theorem we_X4_add : Cond.selects "RopeDance$Search" yX4_add yX4_add ∈ lw_g := xg (xip_2 (List.mem_of_getElem? (i := 15) rfl)) rfl
theorem wm_X4_48 : Cond.methodLink "RopeDance$Search" (48 : Nat) ({ cls := "RopeDance$Search", name := "add", desc := "(II)V" } : Jvm.MethodName) ∈ lw_g := xg (xin_5 (List.mem_of_getElem? (i := 17) rfl)) rfl
theorem wf_X4_52 : Cond.fieldLink "RopeDance$Search" (52 : Nat) "RopeDance$Search" "found" "I" ∈ lw_g := xg (xin_4 (List.mem_of_getElem? (i := 231) rfl)) rfl
theorem wf_X4_13 : Cond.fieldLink "RopeDance$Search" (13 : Nat) "RopeDance$Search" "queue" "[I" ∈ lw_g := xg (xin_4 (List.mem_of_getElem? (i := 234) rfl)) rfl
theorem wf_X4_55 : Cond.fieldLink "RopeDance$Search" (55 : Nat) "RopeDance$Text" "figures" "I" ∈ lw_g := xg (xin_1 (List.mem_of_getElem? (i := 186) rfl)) rfl
theorem wf_X4_60 : Cond.fieldLink "RopeDance$Search" (60 : Nat) "RopeDance$Text" "figureRows" "[LRopeDance$Row;" ∈ lw_g := xg (xin_1 (List.mem_of_getElem? (i := 195) rfl)) rfl
theorem wf_X4_23 : Cond.fieldLink "RopeDance$Search" (23 : Nat) "RopeDance$Search" "tried" "LRopeDance$Square;" ∈ lw_g := xg (xin_4 (List.mem_of_getElem? (i := 236) rfl)) rfl
theorem wf_X4_64 : Cond.fieldLink "RopeDance$Search" (64 : Nat) "RopeDance$Row" "length" "I" ∈ lw_g := xg (xin_1 (List.mem_of_getElem? (i := 110) rfl)) rfl
theorem wm_X4_69 : Cond.methodLink "RopeDance$Search" (69 : Nat) ({ cls := "RopeDance$Row", name := "makes", desc := "(LRopeDance$Square;I)Z" } : Jvm.MethodName) ∈ lw_g := xg (xin_5 (List.mem_of_getElem? (i := 21) rfl)) rfl
theorem wf_X4_19 : Cond.fieldLink "RopeDance$Search" (19 : Nat) "RopeDance$Search" "madeOf" "[I" ∈ lw_g := xg (xin_4 (List.mem_of_getElem? (i := 235) rfl)) rfl
theorem wk_X5_takeTangle : Cond.code ({ cls := "RopeDance$Square", name := "takeTangle", desc := "(LRopeDance$Square;)V" } : Jvm.MethodName) prog_7_method_5_code (2 : Nat) (Option.none : Option Jvm.ClassFile.FieldType) ∈ lw_g := xg (xin_4 (List.mem_of_getElem? (i := 82) rfl)) rfl
theorem MK_X5_takeTangle : MK yX5_takeTangle bX5_takeTangle 2 none 1 := ⟨wn_X5, wk_X5_takeTangle, ⟨by decide, by decide, by decide +kernel⟩, by decide⟩
theorem wi_X5_takeTangle : Cond.instanceMethod ({ cls := "RopeDance$Square", name := "takeTangle", desc := "(LRopeDance$Square;)V" } : Jvm.MethodName) ∈ lw_g := xg (xin_4 (List.mem_of_getElem? (i := 80) rfl)) rfl
theorem we_X5_takeTangle : Cond.selects "RopeDance$Square" yX5_takeTangle yX5_takeTangle ∈ lw_g := xg (xin_4 (List.mem_of_getElem? (i := 81) rfl)) rfl
theorem wm_X5_13 : Cond.methodLink "RopeDance$Square" (13 : Nat) ({ cls := "RopeDance$Square", name := "takeTangle", desc := "(LRopeDance$Square;)V" } : Jvm.MethodName) ∈ lw_g := xg (xin_5 (List.mem_of_getElem? (i := 157) rfl)) rfl
theorem wf_X5_17 : Cond.fieldLink "RopeDance$Square" (17 : Nat) "RopeDance$Square" "tired" "I" ∈ lw_g := xg (xin_1 (List.mem_of_getElem? (i := 149) rfl)) rfl
theorem wf_X5_20 : Cond.fieldLink "RopeDance$Square" (20 : Nat) "RopeDance$Square" "called" "I" ∈ lw_g := xg (xin_1 (List.mem_of_getElem? (i := 153) rfl)) rfl
theorem wf_X5_23 : Cond.fieldLink "RopeDance$Square" (23 : Nat) "RopeDance$Square" "p" "I" ∈ lw_g := xg (xin_1 (List.mem_of_getElem? (i := 138) rfl)) rfl
theorem wf_X5_7 : Cond.fieldLink "RopeDance$Square" (7 : Nat) "RopeDance$Square" "q" "I" ∈ lw_g := xg (xin_1 (List.mem_of_getElem? (i := 142) rfl)) rfl
theorem wm_X5_31 : Cond.methodLink "RopeDance$Square" (31 : Nat) ({ cls := "RopeDance$Square", name := "isTangle", desc := "(I)Z" } : Jvm.MethodName) ∈ lw_g := xg (xin_3 (List.mem_of_getElem? (i := 187) rfl)) rfl
theorem wk_X5_turn : Cond.code ({ cls := "RopeDance$Square", name := "turn", desc := "()V" } : Jvm.MethodName) prog_7_method_9_code (2 : Nat) (Option.none : Option Jvm.ClassFile.FieldType) ∈ lw_g := xg (xin_3 (List.mem_of_getElem? (i := 186) rfl)) rfl
theorem MK_X5_turn : MK yX5_turn bX5_turn 2 none 0 := ⟨wn_X5, wk_X5_turn, ⟨by decide, by decide, by decide +kernel⟩, by decide⟩
theorem wi_X5_turn : Cond.instanceMethod ({ cls := "RopeDance$Square", name := "turn", desc := "()V" } : Jvm.MethodName) ∈ lw_g := xg (xin_3 (List.mem_of_getElem? (i := 185) rfl)) rfl
theorem we_X5_turn : Cond.selects "RopeDance$Square" yX5_turn yX5_turn ∈ lw_g := xg (xip_1 (List.mem_of_getElem? (i := 14) rfl)) rfl
theorem wm_X5_28 : Cond.methodLink "RopeDance$Square" (28 : Nat) ({ cls := "RopeDance$Square", name := "turn", desc := "()V" } : Jvm.MethodName) ∈ lw_g := xg (xin_3 (List.mem_of_getElem? (i := 183) rfl)) rfl
theorem wm_X5_35 : Cond.methodLink "RopeDance$Square" (35 : Nat) ({ cls := "java/lang/Math", name := "abs", desc := "(I)I" } : Jvm.MethodName) ∈ lw_g := xg (xin_4 (List.mem_of_getElem? (i := 24) rfl)) rfl
theorem wk_X5_endsOf : Cond.code ({ cls := "RopeDance$Square", name := "endsOf", desc := "(II)I" } : Jvm.MethodName) prog_7_method_3_code (2 : Nat) (Option.some Jvm.ClassFile.FieldType.int) ∈ lw_g := xg (xin_4 (List.mem_of_getElem? (i := 33) rfl)) rfl
theorem MK_X5_endsOf : MK yX5_endsOf bX5_endsOf 2 (some .int) 2 := ⟨wn_X5, wk_X5_endsOf, ⟨by decide, by decide, by decide +kernel⟩, by decide⟩
theorem ws_X5_endsOf : Cond.static ({ cls := "RopeDance$Square", name := "endsOf", desc := "(II)I" } : Jvm.MethodName) ∈ lw_g := xg (xin_4 (List.mem_of_getElem? (i := 32) rfl)) rfl
theorem wm_X5_41 : Cond.methodLink "RopeDance$Square" (41 : Nat) ({ cls := "RopeDance$Square", name := "endsOf", desc := "(II)I" } : Jvm.MethodName) ∈ lw_g := xg (xin_4 (List.mem_of_getElem? (i := 31) rfl)) rfl
theorem wn_J9 : Cond.initialized "java/lang/Math" ∈ lw_g := xg (xin_1 (List.mem_of_getElem? (i := 16) rfl)) rfl
theorem wk_J9_floorMod_7cf53 : Cond.code ({ cls := "java/lang/Math", name := "floorMod", desc := "(II)I" } : Jvm.MethodName) prog_16_method_50_code (3 : Nat) (Option.some Jvm.ClassFile.FieldType.int) ∈ lw_g := xg (xin_4 (List.mem_of_getElem? (i := 206) rfl)) rfl
theorem MK_J9_floorMod_7cf53 : MK yJ9_floorMod_7cf53 bJ9_floorMod_7cf53 3 (some .int) 2 := ⟨wn_J9, wk_J9_floorMod_7cf53, ⟨by decide, by decide, by decide +kernel⟩, by decide⟩
theorem ws_J9_floorMod_7cf53 : Cond.static ({ cls := "java/lang/Math", name := "floorMod", desc := "(II)I" } : Jvm.MethodName) ∈ lw_g := xg (xin_4 (List.mem_of_getElem? (i := 205) rfl)) rfl
theorem wm_X5_45 : Cond.methodLink "RopeDance$Square" (45 : Nat) ({ cls := "java/lang/Math", name := "floorMod", desc := "(II)I" } : Jvm.MethodName) ∈ lw_g := xg (xin_5 (List.mem_of_getElem? (i := 50) rfl)) rfl
theorem wf_X6_7 : Cond.fieldLink "RopeDance$Table" (7 : Nat) "RopeDance$Table" "a" "I" ∈ lw_g := xg (xin_1 (List.mem_of_getElem? (i := 96) rfl)) rfl
theorem wf_X6_16 : Cond.fieldLink "RopeDance$Table" (16 : Nat) "RopeDance$Table" "b" "I" ∈ lw_g := xg (xin_1 (List.mem_of_getElem? (i := 97) rfl)) rfl
theorem wf_X6_19 : Cond.fieldLink "RopeDance$Table" (19 : Nat) "RopeDance$Table" "c" "I" ∈ lw_g := xg (xin_1 (List.mem_of_getElem? (i := 98) rfl)) rfl
theorem wf_X6_13 : Cond.fieldLink "RopeDance$Table" (13 : Nat) "RopeDance$Table" "d" "I" ∈ lw_g := xg (xin_1 (List.mem_of_getElem? (i := 99) rfl)) rfl
theorem wm_X6_24 : Cond.methodLink "RopeDance$Table" (24 : Nat) ({ cls := "java/lang/Math", name := "floorMod", desc := "(II)I" } : Jvm.MethodName) ∈ lw_g := xg (xin_5 (List.mem_of_getElem? (i := 100) rfl)) rfl
theorem wk_X6_sign : Cond.code ({ cls := "RopeDance$Table", name := "sign", desc := "()I" } : Jvm.MethodName) prog_8_method_8_code (1 : Nat) (Option.some Jvm.ClassFile.FieldType.int) ∈ lw_g := xg (xin_4 (List.mem_of_getElem? (i := 66) rfl)) rfl
theorem MK_X6_sign : MK yX6_sign bX6_sign 1 (some .int) 0 := ⟨wn_X6, wk_X6_sign, ⟨by decide, by decide, by decide +kernel⟩, by decide⟩
theorem wi_X6_sign : Cond.instanceMethod ({ cls := "RopeDance$Table", name := "sign", desc := "()I" } : Jvm.MethodName) ∈ lw_g := xg (xin_4 (List.mem_of_getElem? (i := 64) rfl)) rfl
theorem we_X6_sign : Cond.selects "RopeDance$Table" yX6_sign yX6_sign ∈ lw_g := xg (xin_4 (List.mem_of_getElem? (i := 65) rfl)) rfl
theorem wm_X6_30 : Cond.methodLink "RopeDance$Table" (30 : Nat) ({ cls := "RopeDance$Table", name := "sign", desc := "()I" } : Jvm.MethodName) ∈ lw_g := xg (xin_5 (List.mem_of_getElem? (i := 131) rfl)) rfl
theorem wm_X6_34 : Cond.methodLink "RopeDance$Table" (34 : Nat) ({ cls := "RopeDance$Square", name := "endsOf", desc := "(II)I" } : Jvm.MethodName) ∈ lw_g := xg (xin_5 (List.mem_of_getElem? (i := 144) rfl)) rfl
theorem wf_X6_39 : Cond.fieldLink "RopeDance$Table" (39 : Nat) "RopeDance$Square" "p" "I" ∈ lw_g := xg (xin_1 (List.mem_of_getElem? (i := 141) rfl)) rfl
theorem wf_X6_42 : Cond.fieldLink "RopeDance$Table" (42 : Nat) "RopeDance$Square" "q" "I" ∈ lw_g := xg (xin_1 (List.mem_of_getElem? (i := 147) rfl)) rfl
theorem wk_X6_isNothing : Cond.code ({ cls := "RopeDance$Table", name := "isNothing", desc := "()Z" } : Jvm.MethodName) prog_8_method_9_code (1 : Nat) (Option.some Jvm.ClassFile.FieldType.boolean) ∈ lw_g := xg (xin_5 (List.mem_of_getElem? (i := 77) rfl)) rfl
theorem MK_X6_isNothing : MK yX6_isNothing bX6_isNothing 1 (some .boolean) 0 := ⟨wn_X6, wk_X6_isNothing, ⟨by decide, by decide, by decide +kernel⟩, by decide⟩
theorem wi_X6_isNothing : Cond.instanceMethod ({ cls := "RopeDance$Table", name := "isNothing", desc := "()Z" } : Jvm.MethodName) ∈ lw_g := xg (xin_5 (List.mem_of_getElem? (i := 75) rfl)) rfl
theorem we_X6_isNothing : Cond.selects "RopeDance$Table" yX6_isNothing yX6_isNothing ∈ lw_g := xg (xin_5 (List.mem_of_getElem? (i := 76) rfl)) rfl
theorem wm_X6_45 : Cond.methodLink "RopeDance$Table" (45 : Nat) ({ cls := "RopeDance$Table", name := "isNothing", desc := "()Z" } : Jvm.MethodName) ∈ lw_g := xg (xin_5 (List.mem_of_getElem? (i := 118) rfl)) rfl
theorem wk_X6_trace : Cond.code ({ cls := "RopeDance$Table", name := "trace", desc := "()I" } : Jvm.MethodName) prog_8_method_7_code (1 : Nat) (Option.some Jvm.ClassFile.FieldType.int) ∈ lw_g := xg (xin_5 (List.mem_of_getElem? (i := 81) rfl)) rfl
theorem MK_X6_trace : MK yX6_trace bX6_trace 1 (some .int) 0 := ⟨wn_X6, wk_X6_trace, ⟨by decide, by decide, by decide +kernel⟩, by decide⟩
theorem wi_X6_trace : Cond.instanceMethod ({ cls := "RopeDance$Table", name := "trace", desc := "()I" } : Jvm.MethodName) ∈ lw_g := xg (xin_5 (List.mem_of_getElem? (i := 79) rfl)) rfl
theorem we_X6_trace : Cond.selects "RopeDance$Table" yX6_trace yX6_trace ∈ lw_g := xg (xin_5 (List.mem_of_getElem? (i := 80) rfl)) rfl
theorem wm_X6_49 : Cond.methodLink "RopeDance$Table" (49 : Nat) ({ cls := "RopeDance$Table", name := "trace", desc := "()I" } : Jvm.MethodName) ∈ lw_g := xg (xin_5 (List.mem_of_getElem? (i := 119) rfl)) rfl
theorem wm_X6_52 : Cond.methodLink "RopeDance$Table" (52 : Nat) ({ cls := "java/lang/Math", name := "abs", desc := "(I)I" } : Jvm.MethodName) ∈ lw_g := xg (xin_5 (List.mem_of_getElem? (i := 120) rfl)) rfl
theorem wn_X11 : Cond.initialized "RopeDance" ∈ lw_g := xg (xin_1 (List.mem_of_getElem? (i := 1) rfl)) rfl
theorem wk_X11_greatest : Cond.code ({ cls := "RopeDance", name := "greatest", desc := "(II)I" } : Jvm.MethodName) prog_1_method_55_code (6 : Nat) (Option.some Jvm.ClassFile.FieldType.int) ∈ lw_g := xg (xin_5 (List.mem_of_getElem? (i := 64) rfl)) rfl
theorem MK_X11_greatest : MK yX11_greatest bX11_greatest 6 (some .int) 2 := ⟨wn_X11, wk_X11_greatest, ⟨by decide, by decide, by decide +kernel⟩, by decide⟩
theorem ws_X11_greatest : Cond.static ({ cls := "RopeDance", name := "greatest", desc := "(II)I" } : Jvm.MethodName) ∈ lw_g := xg (xin_5 (List.mem_of_getElem? (i := 63) rfl)) rfl
theorem wm_X6_61 : Cond.methodLink "RopeDance$Table" (61 : Nat) ({ cls := "RopeDance$Square", name := "isTangle", desc := "(I)Z" } : Jvm.MethodName) ∈ lw_g := xg (xin_5 (List.mem_of_getElem? (i := 122) rfl)) rfl
theorem wf_X7_27 : Cond.fieldLink "RopeDance$Tape" (27 : Nat) "RopeDance$Tape" "length" "I" ∈ lw_g := xg (xin_1 (List.mem_of_getElem? (i := 34) rfl)) rfl
theorem wk_X7_hasRoom : Cond.code ({ cls := "RopeDance$Tape", name := "hasRoom", desc := "(I)Z" } : Jvm.MethodName) prog_9_method_2_code (2 : Nat) (Option.some Jvm.ClassFile.FieldType.boolean) ∈ lw_g := xg (xin_2 (List.mem_of_getElem? (i := 169) rfl)) rfl
theorem MK_X7_hasRoom : MK yX7_hasRoom bX7_hasRoom 2 (some .boolean) 1 := ⟨wn_X7, wk_X7_hasRoom, ⟨by decide, by decide, by decide +kernel⟩, by decide⟩
theorem wi_X7_hasRoom : Cond.instanceMethod ({ cls := "RopeDance$Tape", name := "hasRoom", desc := "(I)Z" } : Jvm.MethodName) ∈ lw_g := xg (xin_2 (List.mem_of_getElem? (i := 167) rfl)) rfl
theorem we_X7_hasRoom : Cond.selects "RopeDance$Tape" yX7_hasRoom yX7_hasRoom ∈ lw_g := xg (xin_2 (List.mem_of_getElem? (i := 168) rfl)) rfl
theorem wm_X7_31 : Cond.methodLink "RopeDance$Tape" (31 : Nat) ({ cls := "RopeDance$Tape", name := "hasRoom", desc := "(I)Z" } : Jvm.MethodName) ∈ lw_g := xg (xin_2 (List.mem_of_getElem? (i := 174) rfl)) rfl
theorem wf_X7_9 : Cond.fieldLink "RopeDance$Tape" (9 : Nat) "RopeDance$Tape" "bytes" "[B" ∈ lw_g := xg (xin_1 (List.mem_of_getElem? (i := 46) rfl)) rfl
theorem wm_X7_43 : Cond.methodLink "RopeDance$Tape" (43 : Nat) ({ cls := "RopeDance$Tape", name := "takeUp", desc := "(I)V" } : Jvm.MethodName) ∈ lw_g := xg (xin_3 (List.mem_of_getElem? (i := 97) rfl)) rfl
theorem wk_X7_behindBlanks : Cond.code ({ cls := "RopeDance$Tape", name := "behindBlanks", desc := "(I)I" } : Jvm.MethodName) prog_9_method_7_code (3 : Nat) (Option.some Jvm.ClassFile.FieldType.int) ∈ lw_g := xg (xin_2 (List.mem_of_getElem? (i := 195) rfl)) rfl
theorem MK_X7_behindBlanks : MK yX7_behindBlanks bX7_behindBlanks 3 (some .int) 1 := ⟨wn_X7, wk_X7_behindBlanks, ⟨by decide, by decide, by decide +kernel⟩, by decide⟩
theorem wi_X7_behindBlanks : Cond.instanceMethod ({ cls := "RopeDance$Tape", name := "behindBlanks", desc := "(I)I" } : Jvm.MethodName) ∈ lw_g := xg (xin_2 (List.mem_of_getElem? (i := 194) rfl)) rfl
theorem we_X7_behindBlanks : Cond.selects "RopeDance$Tape" yX7_behindBlanks yX7_behindBlanks ∈ lw_g := xg (xip_1 (List.mem_of_getElem? (i := 1) rfl)) rfl
theorem wm_X7_35 : Cond.methodLink "RopeDance$Tape" (35 : Nat) ({ cls := "RopeDance$Tape", name := "behindBlanks", desc := "(I)I" } : Jvm.MethodName) ∈ lw_g := xg (xin_2 (List.mem_of_getElem? (i := 192) rfl)) rfl
theorem wf_X7_17 : Cond.fieldLink "RopeDance$Tape" (17 : Nat) "RopeDance$Tape" "places" "[I" ∈ lw_g := xg (xin_1 (List.mem_of_getElem? (i := 48) rfl)) rfl
theorem wk_X7_scanToken : Cond.code ({ cls := "RopeDance$Tape", name := "scanToken", desc := "(II)I" } : Jvm.MethodName) prog_9_method_8_code (5 : Nat) (Option.some Jvm.ClassFile.FieldType.int) ∈ lw_g := xg (xin_2 (List.mem_of_getElem? (i := 206) rfl)) rfl
theorem MK_X7_scanToken : MK yX7_scanToken bX7_scanToken 5 (some .int) 2 := ⟨wn_X7, wk_X7_scanToken, ⟨by decide, by decide, by decide +kernel⟩, by decide⟩
theorem wi_X7_scanToken : Cond.instanceMethod ({ cls := "RopeDance$Tape", name := "scanToken", desc := "(II)I" } : Jvm.MethodName) ∈ lw_g := xg (xin_2 (List.mem_of_getElem? (i := 205) rfl)) rfl
theorem we_X7_scanToken : Cond.selects "RopeDance$Tape" yX7_scanToken yX7_scanToken ∈ lw_g := xg (xip_1 (List.mem_of_getElem? (i := 3) rfl)) rfl
theorem wm_X7_39 : Cond.methodLink "RopeDance$Tape" (39 : Nat) ({ cls := "RopeDance$Tape", name := "scanToken", desc := "(II)I" } : Jvm.MethodName) ∈ lw_g := xg (xin_2 (List.mem_of_getElem? (i := 203) rfl)) rfl
theorem wf_X7_13 : Cond.fieldLink "RopeDance$Tape" (13 : Nat) "RopeDance$Tape" "kinds" "[I" ∈ lw_g := xg (xin_1 (List.mem_of_getElem? (i := 47) rfl)) rfl
theorem wf_X7_47 : Cond.fieldLink "RopeDance$Tape" (47 : Nat) "RopeDance$Tape" "token" "I" ∈ lw_g := xg (xin_1 (List.mem_of_getElem? (i := 36) rfl)) rfl
theorem wf_X7_50 : Cond.fieldLink "RopeDance$Tape" (50 : Nat) "RopeDance$Tape" "kind" "I" ∈ lw_g := xg (xin_1 (List.mem_of_getElem? (i := 39) rfl)) rfl
theorem wf_X7_53 : Cond.fieldLink "RopeDance$Tape" (53 : Nat) "RopeDance$Tape" "place" "I" ∈ lw_g := xg (xin_1 (List.mem_of_getElem? (i := 41) rfl)) rfl
theorem wf_X7_20 : Cond.fieldLink "RopeDance$Tape" (20 : Nat) "RopeDance$Tape" "values" "[I" ∈ lw_g := xg (xin_1 (List.mem_of_getElem? (i := 49) rfl)) rfl
theorem wf_X7_56 : Cond.fieldLink "RopeDance$Tape" (56 : Nat) "RopeDance$Tape" "value" "I" ∈ lw_g := xg (xin_1 (List.mem_of_getElem? (i := 42) rfl)) rfl
theorem wf_X7_23 : Cond.fieldLink "RopeDance$Tape" (23 : Nat) "RopeDance$Tape" "names" "[J" ∈ lw_g := xg (xin_1 (List.mem_of_getElem? (i := 50) rfl)) rfl
theorem wf_X7_59 : Cond.fieldLink "RopeDance$Tape" (59 : Nat) "RopeDance$Tape" "name" "J" ∈ lw_g := xg (xin_1 (List.mem_of_getElem? (i := 44) rfl)) rfl
theorem wk_X7_byteAt : Cond.code ({ cls := "RopeDance$Tape", name := "byteAt", desc := "(I)I" } : Jvm.MethodName) prog_9_method_6_code (2 : Nat) (Option.some Jvm.ClassFile.FieldType.int) ∈ lw_g := xg (xin_2 (List.mem_of_getElem? (i := 199) rfl)) rfl
theorem MK_X7_byteAt : MK yX7_byteAt bX7_byteAt 2 (some .int) 1 := ⟨wn_X7, wk_X7_byteAt, ⟨by decide, by decide, by decide +kernel⟩, by decide⟩
theorem wi_X7_byteAt : Cond.instanceMethod ({ cls := "RopeDance$Tape", name := "byteAt", desc := "(I)I" } : Jvm.MethodName) ∈ lw_g := xg (xin_2 (List.mem_of_getElem? (i := 198) rfl)) rfl
theorem we_X7_byteAt : Cond.selects "RopeDance$Tape" yX7_byteAt yX7_byteAt ∈ lw_g := xg (xip_1 (List.mem_of_getElem? (i := 2) rfl)) rfl
theorem wm_X7_63 : Cond.methodLink "RopeDance$Tape" (63 : Nat) ({ cls := "RopeDance$Tape", name := "byteAt", desc := "(I)I" } : Jvm.MethodName) ∈ lw_g := xg (xin_2 (List.mem_of_getElem? (i := 196) rfl)) rfl
theorem wk_X7_isBlank : Cond.code ({ cls := "RopeDance$Tape", name := "isBlank", desc := "(I)Z" } : Jvm.MethodName) prog_9_method_13_code (1 : Nat) (Option.some Jvm.ClassFile.FieldType.boolean) ∈ lw_g := xg (xin_2 (List.mem_of_getElem? (i := 202) rfl)) rfl
theorem MK_X7_isBlank : MK yX7_isBlank bX7_isBlank 1 (some .boolean) 1 := ⟨wn_X7, wk_X7_isBlank, ⟨by decide, by decide, by decide +kernel⟩, by decide⟩
theorem ws_X7_isBlank : Cond.static ({ cls := "RopeDance$Tape", name := "isBlank", desc := "(I)Z" } : Jvm.MethodName) ∈ lw_g := xg (xin_2 (List.mem_of_getElem? (i := 201) rfl)) rfl
theorem wm_X7_66 : Cond.methodLink "RopeDance$Tape" (66 : Nat) ({ cls := "RopeDance$Tape", name := "isBlank", desc := "(I)Z" } : Jvm.MethodName) ∈ lw_g := xg (xin_2 (List.mem_of_getElem? (i := 200) rfl)) rfl
theorem wk_X7_isLetter : Cond.code ({ cls := "RopeDance$Tape", name := "isLetter", desc := "(I)Z" } : Jvm.MethodName) prog_9_method_14_code (1 : Nat) (Option.some Jvm.ClassFile.FieldType.boolean) ∈ lw_g := xg (xin_2 (List.mem_of_getElem? (i := 209) rfl)) rfl
theorem MK_X7_isLetter : MK yX7_isLetter bX7_isLetter 1 (some .boolean) 1 := ⟨wn_X7, wk_X7_isLetter, ⟨by decide, by decide, by decide +kernel⟩, by decide⟩
theorem ws_X7_isLetter : Cond.static ({ cls := "RopeDance$Tape", name := "isLetter", desc := "(I)Z" } : Jvm.MethodName) ∈ lw_g := xg (xin_2 (List.mem_of_getElem? (i := 208) rfl)) rfl
theorem wm_X7_69 : Cond.methodLink "RopeDance$Tape" (69 : Nat) ({ cls := "RopeDance$Tape", name := "isLetter", desc := "(I)Z" } : Jvm.MethodName) ∈ lw_g := xg (xin_2 (List.mem_of_getElem? (i := 207) rfl)) rfl
theorem wk_X7_isDigit : Cond.code ({ cls := "RopeDance$Tape", name := "isDigit", desc := "(I)Z" } : Jvm.MethodName) prog_9_method_15_code (1 : Nat) (Option.some Jvm.ClassFile.FieldType.boolean) ∈ lw_g := xg (xin_3 (List.mem_of_getElem? (i := 32) rfl)) rfl
theorem MK_X7_isDigit : MK yX7_isDigit bX7_isDigit 1 (some .boolean) 1 := ⟨wn_X7, wk_X7_isDigit, ⟨by decide, by decide, by decide +kernel⟩, by decide⟩
theorem ws_X7_isDigit : Cond.static ({ cls := "RopeDance$Tape", name := "isDigit", desc := "(I)Z" } : Jvm.MethodName) ∈ lw_g := xg (xin_3 (List.mem_of_getElem? (i := 31) rfl)) rfl
theorem wm_X7_75 : Cond.methodLink "RopeDance$Tape" (75 : Nat) ({ cls := "RopeDance$Tape", name := "isDigit", desc := "(I)Z" } : Jvm.MethodName) ∈ lw_g := xg (xin_3 (List.mem_of_getElem? (i := 30) rfl)) rfl
theorem wn_J0 : Cond.initialized "java/lang/String" ∈ lw_g := xg (xin_1 (List.mem_of_getElem? (i := 12) rfl)) rfl
theorem wk_J0_indexOf_0f7a4 : Cond.code ({ cls := "java/lang/String", name := "indexOf", desc := "(I)I" } : Jvm.MethodName) prog_17_method_79_code (2 : Nat) (Option.some Jvm.ClassFile.FieldType.int) ∈ lw_g := xg (xin_3 (List.mem_of_getElem? (i := 41) rfl)) rfl
theorem MK_J0_indexOf_0f7a4 : MK yJ0_indexOf_0f7a4 bJ0_indexOf_0f7a4 2 (some .int) 1 := ⟨wn_J0, wk_J0_indexOf_0f7a4, ⟨by decide, by decide, by decide +kernel⟩, by decide⟩
theorem wi_J0_indexOf_0f7a4 : Cond.instanceMethod ({ cls := "java/lang/String", name := "indexOf", desc := "(I)I" } : Jvm.MethodName) ∈ lw_g := xg (xin_3 (List.mem_of_getElem? (i := 39) rfl)) rfl
theorem we_J0_indexOf_0f7a4 : Cond.selects "java/lang/String" yJ0_indexOf_0f7a4 yJ0_indexOf_0f7a4 ∈ lw_g := xg (xin_3 (List.mem_of_getElem? (i := 40) rfl)) rfl
theorem wm_X7_83 : Cond.methodLink "RopeDance$Tape" (83 : Nat) ({ cls := "java/lang/String", name := "indexOf", desc := "(I)I" } : Jvm.MethodName) ∈ lw_g := xg (xin_3 (List.mem_of_getElem? (i := 38) rfl)) rfl
theorem wk_X7_scanInt : Cond.code ({ cls := "RopeDance$Tape", name := "scanInt", desc := "(II)I" } : Jvm.MethodName) prog_9_method_10_code (5 : Nat) (Option.some Jvm.ClassFile.FieldType.int) ∈ lw_g := xg (xin_3 (List.mem_of_getElem? (i := 36) rfl)) rfl
theorem MK_X7_scanInt : MK yX7_scanInt bX7_scanInt 5 (some .int) 2 := ⟨wn_X7, wk_X7_scanInt, ⟨by decide, by decide, by decide +kernel⟩, by decide⟩
theorem wi_X7_scanInt : Cond.instanceMethod ({ cls := "RopeDance$Tape", name := "scanInt", desc := "(II)I" } : Jvm.MethodName) ∈ lw_g := xg (xin_3 (List.mem_of_getElem? (i := 35) rfl)) rfl
theorem we_X7_scanInt : Cond.selects "RopeDance$Tape" yX7_scanInt yX7_scanInt ∈ lw_g := xg (xip_1 (List.mem_of_getElem? (i := 5) rfl)) rfl
theorem wm_X7_78 : Cond.methodLink "RopeDance$Tape" (78 : Nat) ({ cls := "RopeDance$Tape", name := "scanInt", desc := "(II)I" } : Jvm.MethodName) ∈ lw_g := xg (xin_3 (List.mem_of_getElem? (i := 33) rfl)) rfl
theorem wk_X7_scanWord : Cond.code ({ cls := "RopeDance$Tape", name := "scanWord", desc := "(II)I" } : Jvm.MethodName) prog_9_method_9_code (6 : Nat) (Option.some Jvm.ClassFile.FieldType.int) ∈ lw_g := xg (xin_2 (List.mem_of_getElem? (i := 213) rfl)) rfl
theorem MK_X7_scanWord : MK yX7_scanWord bX7_scanWord 6 (some .int) 2 := ⟨wn_X7, wk_X7_scanWord, ⟨by decide, by decide, by decide +kernel⟩, by decide⟩
theorem wi_X7_scanWord : Cond.instanceMethod ({ cls := "RopeDance$Tape", name := "scanWord", desc := "(II)I" } : Jvm.MethodName) ∈ lw_g := xg (xin_2 (List.mem_of_getElem? (i := 212) rfl)) rfl
theorem we_X7_scanWord : Cond.selects "RopeDance$Tape" yX7_scanWord yX7_scanWord ∈ lw_g := xg (xip_1 (List.mem_of_getElem? (i := 4) rfl)) rfl
theorem wm_X7_72 : Cond.methodLink "RopeDance$Tape" (72 : Nat) ({ cls := "RopeDance$Tape", name := "scanWord", desc := "(II)I" } : Jvm.MethodName) ∈ lw_g := xg (xin_2 (List.mem_of_getElem? (i := 210) rfl)) rfl
theorem wk_X7_kindOfWord : Cond.code ({ cls := "RopeDance$Tape", name := "kindOfWord", desc := "(J)I" } : Jvm.MethodName) prog_9_method_11_code (7 : Nat) (Option.some Jvm.ClassFile.FieldType.int) ∈ lw_g := xg (xin_2 (List.mem_of_getElem? (i := 220) rfl)) rfl
theorem MK_X7_kindOfWord : MK yX7_kindOfWord bX7_kindOfWord 7 (some .int) 1 := ⟨wn_X7, wk_X7_kindOfWord, ⟨by decide, by decide, by decide +kernel⟩, by decide⟩
theorem ws_X7_kindOfWord : Cond.static ({ cls := "RopeDance$Tape", name := "kindOfWord", desc := "(J)I" } : Jvm.MethodName) ∈ lw_g := xg (xin_2 (List.mem_of_getElem? (i := 219) rfl)) rfl
theorem wm_X7_92 : Cond.methodLink "RopeDance$Tape" (92 : Nat) ({ cls := "RopeDance$Tape", name := "kindOfWord", desc := "(J)I" } : Jvm.MethodName) ∈ lw_g := xg (xin_2 (List.mem_of_getElem? (i := 218) rfl)) rfl
theorem wk_X7_withLetter : Cond.code ({ cls := "RopeDance$Tape", name := "withLetter", desc := "(JI)J" } : Jvm.MethodName) prog_9_method_12_code (3 : Nat) (Option.some Jvm.ClassFile.FieldType.long) ∈ lw_g := xg (xin_2 (List.mem_of_getElem? (i := 216) rfl)) rfl
theorem MK_X7_withLetter : MK yX7_withLetter bX7_withLetter 3 (some .long) 2 := ⟨wn_X7, wk_X7_withLetter, ⟨by decide, by decide, by decide +kernel⟩, by decide⟩
theorem ws_X7_withLetter : Cond.static ({ cls := "RopeDance$Tape", name := "withLetter", desc := "(JI)J" } : Jvm.MethodName) ∈ lw_g := xg (xin_2 (List.mem_of_getElem? (i := 215) rfl)) rfl
theorem wm_X7_88 : Cond.methodLink "RopeDance$Tape" (88 : Nat) ({ cls := "RopeDance$Tape", name := "withLetter", desc := "(JI)J" } : Jvm.MethodName) ∈ lw_g := xg (xin_2 (List.mem_of_getElem? (i := 214) rfl)) rfl
theorem wk_J0_length_8abf5 : Cond.code ({ cls := "java/lang/String", name := "length", desc := "()I" } : Jvm.MethodName) prog_17_method_54_code (1 : Nat) (Option.some Jvm.ClassFile.FieldType.int) ∈ lw_g := xg (xin_2 (List.mem_of_getElem? (i := 225) rfl)) rfl
theorem MK_J0_length_8abf5 : MK yJ0_length_8abf5 bJ0_length_8abf5 1 (some .int) 0 := ⟨wn_J0, wk_J0_length_8abf5, ⟨by decide, by decide, by decide +kernel⟩, by decide⟩
theorem wi_J0_length_8abf5 : Cond.instanceMethod ({ cls := "java/lang/String", name := "length", desc := "()I" } : Jvm.MethodName) ∈ lw_g := xg (xin_2 (List.mem_of_getElem? (i := 223) rfl)) rfl
theorem we_J0_length_8abf5 : Cond.selects "java/lang/String" yJ0_length_8abf5 yJ0_length_8abf5 ∈ lw_g := xg (xin_2 (List.mem_of_getElem? (i := 224) rfl)) rfl
theorem wm_X7_98 : Cond.methodLink "RopeDance$Tape" (98 : Nat) ({ cls := "java/lang/String", name := "length", desc := "()I" } : Jvm.MethodName) ∈ lw_g := xg (xin_2 (List.mem_of_getElem? (i := 222) rfl)) rfl
theorem wk_J0_charAt_5068e : Cond.code ({ cls := "java/lang/String", name := "charAt", desc := "(I)C" } : Jvm.MethodName) prog_17_method_56_code (2 : Nat) (Option.some Jvm.ClassFile.FieldType.char) ∈ lw_g := xg (xin_2 (List.mem_of_getElem? (i := 235) rfl)) rfl
theorem MK_J0_charAt_5068e : MK yJ0_charAt_5068e bJ0_charAt_5068e 2 (some .char) 1 := ⟨wn_J0, wk_J0_charAt_5068e, ⟨by decide, by decide, by decide +kernel⟩, by decide⟩
theorem wi_J0_charAt_5068e : Cond.instanceMethod ({ cls := "java/lang/String", name := "charAt", desc := "(I)C" } : Jvm.MethodName) ∈ lw_g := xg (xin_2 (List.mem_of_getElem? (i := 233) rfl)) rfl
theorem we_J0_charAt_5068e : Cond.selects "java/lang/String" yJ0_charAt_5068e yJ0_charAt_5068e ∈ lw_g := xg (xin_2 (List.mem_of_getElem? (i := 234) rfl)) rfl
theorem wm_X7_101 : Cond.methodLink "RopeDance$Tape" (101 : Nat) ({ cls := "java/lang/String", name := "charAt", desc := "(I)C" } : Jvm.MethodName) ∈ lw_g := xg (xin_2 (List.mem_of_getElem? (i := 232) rfl)) rfl
theorem wc_X7_105 : Cond.constantLong "RopeDance$Tape" (105 : Nat) (27 : Int64) ∈ lw_g := xg (xin_2 (List.mem_of_getElem? (i := 217) rfl)) rfl
theorem wf_X8_51 : Cond.fieldLink "RopeDance$Text" (51 : Nat) "RopeDance$Text" "squares" "I" ∈ lw_g := xg (xin_1 (List.mem_of_getElem? (i := 181) rfl)) rfl
theorem wf_X8_55 : Cond.fieldLink "RopeDance$Text" (55 : Nat) "RopeDance$Text" "figures" "I" ∈ lw_g := xg (xin_1 (List.mem_of_getElem? (i := 184) rfl)) rfl
theorem wf_X8_58 : Cond.fieldLink "RopeDance$Text" (58 : Nat) "RopeDance$Text" "seed" "I" ∈ lw_g := xg (xin_1 (List.mem_of_getElem? (i := 188) rfl)) rfl
theorem wf_X8_61 : Cond.fieldLink "RopeDance$Text" (61 : Nat) "RopeDance$Text" "namesTold" "I" ∈ lw_g := xg (xin_1 (List.mem_of_getElem? (i := 200) rfl)) rfl
theorem wf_X8_64 : Cond.fieldLink "RopeDance$Text" (64 : Nat) "RopeDance$Text" "codes" "I" ∈ lw_g := xg (xin_1 (List.mem_of_getElem? (i := 198) rfl)) rfl
theorem wk_X8_addShortLaw : Cond.code ({ cls := "RopeDance$Text", name := "addShortLaw", desc := "(II)V" } : Jvm.MethodName) prog_10_method_3_code (3 : Nat) (Option.none : Option Jvm.ClassFile.FieldType) ∈ lw_g := xg (xin_1 (List.mem_of_getElem? (i := 172) rfl)) rfl
theorem MK_X8_addShortLaw : MK yX8_addShortLaw bX8_addShortLaw 3 none 2 := ⟨wn_X8, wk_X8_addShortLaw, ⟨by decide, by decide, by decide +kernel⟩, by decide⟩
theorem wi_X8_addShortLaw : Cond.instanceMethod ({ cls := "RopeDance$Text", name := "addShortLaw", desc := "(II)V" } : Jvm.MethodName) ∈ lw_g := xg (xin_1 (List.mem_of_getElem? (i := 171) rfl)) rfl
theorem we_X8_addShortLaw : Cond.selects "RopeDance$Text" yX8_addShortLaw yX8_addShortLaw ∈ lw_g := xg (xip_1 (List.mem_of_getElem? (i := 0) rfl)) rfl
theorem wm_X8_67 : Cond.methodLink "RopeDance$Text" (67 : Nat) ({ cls := "RopeDance$Text", name := "addShortLaw", desc := "(II)V" } : Jvm.MethodName) ∈ lw_g := xg (xin_1 (List.mem_of_getElem? (i := 169) rfl)) rfl
theorem wm_X8_71 : Cond.methodLink "RopeDance$Text" (71 : Nat) ({ cls := "RopeDance$Text", name := "beginLaw", desc := "(I)V" } : Jvm.MethodName) ∈ lw_g := xg (xin_1 (List.mem_of_getElem? (i := 173) rfl)) rfl
theorem wm_X8_75 : Cond.methodLink "RopeDance$Text" (75 : Nat) ({ cls := "RopeDance$Text", name := "addCode", desc := "(I)V" } : Jvm.MethodName) ∈ lw_g := xg (xin_1 (List.mem_of_getElem? (i := 177) rfl)) rfl
theorem wf_X8_11 : Cond.fieldLink "RopeDance$Text" (11 : Nat) "RopeDance$Text" "squareRows" "[LRopeDance$Row;" ∈ lw_g := xg (xin_1 (List.mem_of_getElem? (i := 192) rfl)) rfl
theorem wk_X3_clear : Cond.code ({ cls := "RopeDance$Row", name := "clear", desc := "()V" } : Jvm.MethodName) prog_5_method_2_code (1 : Nat) (Option.none : Option Jvm.ClassFile.FieldType) ∈ lw_g := xg (xin_3 (List.mem_of_getElem? (i := 112) rfl)) rfl
theorem MK_X3_clear : MK yX3_clear bX3_clear 1 none 0 := ⟨wn_X3, wk_X3_clear, ⟨by decide, by decide, by decide +kernel⟩, by decide⟩
theorem wi_X3_clear : Cond.instanceMethod ({ cls := "RopeDance$Row", name := "clear", desc := "()V" } : Jvm.MethodName) ∈ lw_g := xg (xin_3 (List.mem_of_getElem? (i := 110) rfl)) rfl
theorem we_X3_clear : Cond.selects "RopeDance$Row" yX3_clear yX3_clear ∈ lw_g := xg (xin_3 (List.mem_of_getElem? (i := 111) rfl)) rfl
theorem wm_X8_78 : Cond.methodLink "RopeDance$Text" (78 : Nat) ({ cls := "RopeDance$Row", name := "clear", desc := "()V" } : Jvm.MethodName) ∈ lw_g := xg (xin_3 (List.mem_of_getElem? (i := 109) rfl)) rfl
theorem wf_X8_16 : Cond.fieldLink "RopeDance$Text" (16 : Nat) "RopeDance$Text" "figureRows" "[LRopeDance$Row;" ∈ lw_g := xg (xin_1 (List.mem_of_getElem? (i := 194) rfl)) rfl
theorem wf_X8_19 : Cond.fieldLink "RopeDance$Text" (19 : Nat) "RopeDance$Text" "names" "[J" ∈ lw_g := xg (xin_1 (List.mem_of_getElem? (i := 199) rfl)) rfl
theorem wf_X8_32 : Cond.fieldLink "RopeDance$Text" (32 : Nat) "RopeDance$Text" "lawStarts" "[I" ∈ lw_g := xg (xin_1 (List.mem_of_getElem? (i := 202) rfl)) rfl
theorem wf_X8_25 : Cond.fieldLink "RopeDance$Text" (25 : Nat) "RopeDance$Text" "code" "[I" ∈ lw_g := xg (xin_1 (List.mem_of_getElem? (i := 201) rfl)) rfl
theorem wf_X8_29 : Cond.fieldLink "RopeDance$Text" (29 : Nat) "RopeDance$Text" "MOST_WORTH" "[I" ∈ lw_g := xg (xin_1 (List.mem_of_getElem? (i := 128) rfl)) rfl
theorem wf_X8_35 : Cond.fieldLink "RopeDance$Text" (35 : Nat) "RopeDance$Text" "vars" "[I" ∈ lw_g := xg (xin_1 (List.mem_of_getElem? (i := 203) rfl)) rfl
theorem wf_X8_79 : Cond.fieldLink "RopeDance$Text" (79 : Nat) "RopeDance$Square" "p" "I" ∈ lw_g := xg (xin_1 (List.mem_of_getElem? (i := 140) rfl)) rfl
theorem wm_X8_82 : Cond.methodLink "RopeDance$Text" (82 : Nat) ({ cls := "java/lang/Math", name := "abs", desc := "(I)I" } : Jvm.MethodName) ∈ lw_g := xg (xin_4 (List.mem_of_getElem? (i := 38) rfl)) rfl
theorem wf_X8_88 : Cond.fieldLink "RopeDance$Text" (88 : Nat) "RopeDance$Square" "q" "I" ∈ lw_g := xg (xin_1 (List.mem_of_getElem? (i := 146) rfl)) rfl
theorem wk_X5_crossings : Cond.code ({ cls := "RopeDance$Square", name := "crossings", desc := "()I" } : Jvm.MethodName) prog_7_method_10_code (6 : Nat) (Option.some Jvm.ClassFile.FieldType.int) ∈ lw_g := xg (xin_4 (List.mem_of_getElem? (i := 23) rfl)) rfl
theorem MK_X5_crossings : MK yX5_crossings bX5_crossings 6 (some .int) 0 := ⟨wn_X5, wk_X5_crossings, ⟨by decide, by decide, by decide +kernel⟩, by decide⟩
theorem wi_X5_crossings : Cond.instanceMethod ({ cls := "RopeDance$Square", name := "crossings", desc := "()I" } : Jvm.MethodName) ∈ lw_g := xg (xin_4 (List.mem_of_getElem? (i := 21) rfl)) rfl
theorem we_X5_crossings : Cond.selects "RopeDance$Square" yX5_crossings yX5_crossings ∈ lw_g := xg (xin_4 (List.mem_of_getElem? (i := 22) rfl)) rfl
theorem wm_X8_91 : Cond.methodLink "RopeDance$Text" (91 : Nat) ({ cls := "RopeDance$Square", name := "crossings", desc := "()I" } : Jvm.MethodName) ∈ lw_g := xg (xin_4 (List.mem_of_getElem? (i := 39) rfl)) rfl
theorem wk_X5_ends : Cond.code ({ cls := "RopeDance$Square", name := "ends", desc := "()I" } : Jvm.MethodName) prog_7_method_11_code (1 : Nat) (Option.some Jvm.ClassFile.FieldType.int) ∈ lw_g := xg (xin_4 (List.mem_of_getElem? (i := 30) rfl)) rfl
theorem MK_X5_ends : MK yX5_ends bX5_ends 1 (some .int) 0 := ⟨wn_X5, wk_X5_ends, ⟨by decide, by decide, by decide +kernel⟩, by decide⟩
theorem wi_X5_ends : Cond.instanceMethod ({ cls := "RopeDance$Square", name := "ends", desc := "()I" } : Jvm.MethodName) ∈ lw_g := xg (xin_4 (List.mem_of_getElem? (i := 28) rfl)) rfl
theorem we_X5_ends : Cond.selects "RopeDance$Square" yX5_ends yX5_ends ∈ lw_g := xg (xin_4 (List.mem_of_getElem? (i := 29) rfl)) rfl
theorem wm_X8_95 : Cond.methodLink "RopeDance$Text" (95 : Nat) ({ cls := "RopeDance$Square", name := "ends", desc := "()I" } : Jvm.MethodName) ∈ lw_g := xg (xin_4 (List.mem_of_getElem? (i := 40) rfl)) rfl
theorem wf_X8_98 : Cond.fieldLink "RopeDance$Text" (98 : Nat) "RopeDance$Square" "tired" "I" ∈ lw_g := xg (xin_1 (List.mem_of_getElem? (i := 151) rfl)) rfl
theorem wf_X8_101 : Cond.fieldLink "RopeDance$Text" (101 : Nat) "RopeDance$Square" "called" "I" ∈ lw_g := xg (xin_1 (List.mem_of_getElem? (i := 155) rfl)) rfl
theorem wk_X8_run : Cond.code ({ cls := "RopeDance$Text", name := "run", desc := "(I)I" } : Jvm.MethodName) prog_10_method_13_code (7 : Nat) (Option.some Jvm.ClassFile.FieldType.int) ∈ lw_g := xg (xin_4 (List.mem_of_getElem? (i := 44) rfl)) rfl
theorem MK_X8_run : MK yX8_run bX8_run 7 (some .int) 1 := ⟨wn_X8, wk_X8_run, ⟨by decide, by decide, by decide +kernel⟩, by decide⟩
theorem wi_X8_run : Cond.instanceMethod ({ cls := "RopeDance$Text", name := "run", desc := "(I)I" } : Jvm.MethodName) ∈ lw_g := xg (xin_4 (List.mem_of_getElem? (i := 43) rfl)) rfl
theorem we_X8_run : Cond.selects "RopeDance$Text" yX8_run yX8_run ∈ lw_g := xg (xip_2 (List.mem_of_getElem? (i := 7) rfl)) rfl
theorem wm_X8_104 : Cond.methodLink "RopeDance$Text" (104 : Nat) ({ cls := "RopeDance$Text", name := "run", desc := "(I)I" } : Jvm.MethodName) ∈ lw_g := xg (xin_4 (List.mem_of_getElem? (i := 41) rfl)) rfl
theorem wm_X8_107 : Cond.methodLink "RopeDance$Text" (107 : Nat) ({ cls := "java/lang/Math", name := "min", desc := "(II)I" } : Jvm.MethodName) ∈ lw_g := xg (xin_4 (List.mem_of_getElem? (i := 53) rfl)) rfl
theorem wm_X8_111 : Cond.methodLink "RopeDance$Text" (111 : Nat) ({ cls := "java/lang/Math", name := "max", desc := "(II)I" } : Jvm.MethodName) ∈ lw_g := xg (xin_4 (List.mem_of_getElem? (i := 45) rfl)) rfl
theorem wf_X8_38 : Cond.fieldLink "RopeDance$Text" (38 : Nat) "RopeDance$Text" "stack" "[I" ∈ lw_g := xg (xin_1 (List.mem_of_getElem? (i := 204) rfl)) rfl
theorem wk_X8_work : Cond.code ({ cls := "RopeDance$Text", name := "work", desc := "(III)I" } : Jvm.MethodName) prog_10_method_15_code (3 : Nat) (Option.some Jvm.ClassFile.FieldType.int) ∈ lw_g := xg (xin_4 (List.mem_of_getElem? (i := 52) rfl)) rfl
theorem MK_X8_work : MK yX8_work bX8_work 3 (some .int) 3 := ⟨wn_X8, wk_X8_work, ⟨by decide, by decide, by decide +kernel⟩, by decide⟩
theorem ws_X8_work : Cond.static ({ cls := "RopeDance$Text", name := "work", desc := "(III)I" } : Jvm.MethodName) ∈ lw_g := xg (xin_4 (List.mem_of_getElem? (i := 51) rfl)) rfl
theorem wm_X8_117 : Cond.methodLink "RopeDance$Text" (117 : Nat) ({ cls := "RopeDance$Text", name := "work", desc := "(III)I" } : Jvm.MethodName) ∈ lw_g := xg (xin_4 (List.mem_of_getElem? (i := 50) rfl)) rfl
theorem wk_X8_jump : Cond.code ({ cls := "RopeDance$Text", name := "jump", desc := "(I)I" } : Jvm.MethodName) prog_10_method_14_code (3 : Nat) (Option.some Jvm.ClassFile.FieldType.int) ∈ lw_g := xg (xin_4 (List.mem_of_getElem? (i := 49) rfl)) rfl
theorem MK_X8_jump : MK yX8_jump bX8_jump 3 (some .int) 1 := ⟨wn_X8, wk_X8_jump, ⟨by decide, by decide, by decide +kernel⟩, by decide⟩
theorem wi_X8_jump : Cond.instanceMethod ({ cls := "RopeDance$Text", name := "jump", desc := "(I)I" } : Jvm.MethodName) ∈ lw_g := xg (xin_4 (List.mem_of_getElem? (i := 48) rfl)) rfl
theorem we_X8_jump : Cond.selects "RopeDance$Text" yX8_jump yX8_jump ∈ lw_g := xg (xip_2 (List.mem_of_getElem? (i := 8) rfl)) rfl
theorem wm_X8_114 : Cond.methodLink "RopeDance$Text" (114 : Nat) ({ cls := "RopeDance$Text", name := "jump", desc := "(I)I" } : Jvm.MethodName) ∈ lw_g := xg (xin_4 (List.mem_of_getElem? (i := 46) rfl)) rfl
theorem wf_X8_44 : Cond.fieldLink "RopeDance$Text" (44 : Nat) "RopeDance$Text" "tried" "LRopeDance$Square;" ∈ lw_g := xg (xin_1 (List.mem_of_getElem? (i := 205) rfl)) rfl
theorem wm_X8_121 : Cond.methodLink "RopeDance$Text" (121 : Nat) ({ cls := "RopeDance$Square", name := "takeTangle", desc := "(LRopeDance$Square;)V" } : Jvm.MethodName) ∈ lw_g := xg (xin_4 (List.mem_of_getElem? (i := 101) rfl)) rfl
theorem wm_X8_125 : Cond.methodLink "RopeDance$Text" (125 : Nat) ({ cls := "RopeDance$Row", name := "makes", desc := "(LRopeDance$Square;I)Z" } : Jvm.MethodName) ∈ lw_g := xg (xin_4 (List.mem_of_getElem? (i := 102) rfl)) rfl
theorem wf_X8_129 : Cond.fieldLink "RopeDance$Text" (129 : Nat) "RopeDance$Row" "length" "I" ∈ lw_g := xg (xin_1 (List.mem_of_getElem? (i := 114) rfl)) rfl
theorem wm_X8_132 : Cond.methodLink "RopeDance$Text" (132 : Nat) ({ cls := "RopeDance$Text", name := "worth", desc := "(ILRopeDance$Square;III)I" } : Jvm.MethodName) ∈ lw_g := xg (xin_4 (List.mem_of_getElem? (i := 103) rfl)) rfl
theorem wk_X8_lot : Cond.code ({ cls := "RopeDance$Text", name := "lot", desc := "(III)I" } : Jvm.MethodName) prog_10_method_18_code (4 : Nat) (Option.some Jvm.ClassFile.FieldType.int) ∈ lw_g := xg (xin_4 (List.mem_of_getElem? (i := 133) rfl)) rfl
theorem MK_X8_lot : MK yX8_lot bX8_lot 4 (some .int) 3 := ⟨wn_X8, wk_X8_lot, ⟨by decide, by decide, by decide +kernel⟩, by decide⟩
theorem ws_X8_lot : Cond.static ({ cls := "RopeDance$Text", name := "lot", desc := "(III)I" } : Jvm.MethodName) ∈ lw_g := xg (xin_4 (List.mem_of_getElem? (i := 132) rfl)) rfl
theorem wm_X8_136 : Cond.methodLink "RopeDance$Text" (136 : Nat) ({ cls := "RopeDance$Text", name := "lot", desc := "(III)I" } : Jvm.MethodName) ∈ lw_g := xg (xin_4 (List.mem_of_getElem? (i := 131) rfl)) rfl
theorem wc_X8_139 : Cond.constant "RopeDance$Text" (139 : Nat) (100000 : Int32) ∈ lw_g := xg (xin_4 (List.mem_of_getElem? (i := 138) rfl)) rfl
theorem wk_X8_calls : Cond.code ({ cls := "RopeDance$Text", name := "calls", desc := "(LRopeDance$Row;LRopeDance$Square;III)Z" } : Jvm.MethodName) prog_10_method_16_code (7 : Nat) (Option.some Jvm.ClassFile.FieldType.boolean) ∈ lw_g := xg (xin_4 (List.mem_of_getElem? (i := 100) rfl)) rfl
theorem MK_X8_calls : MK yX8_calls bX8_calls 7 (some .boolean) 5 := ⟨wn_X8, wk_X8_calls, ⟨by decide, by decide, by decide +kernel⟩, by decide⟩
theorem wi_X8_calls : Cond.instanceMethod ({ cls := "RopeDance$Text", name := "calls", desc := "(LRopeDance$Row;LRopeDance$Square;III)Z" } : Jvm.MethodName) ∈ lw_g := xg (xin_4 (List.mem_of_getElem? (i := 98) rfl)) rfl
theorem we_X8_calls : Cond.selects "RopeDance$Text" yX8_calls yX8_calls ∈ lw_g := xg (xin_4 (List.mem_of_getElem? (i := 99) rfl)) rfl
theorem wm_X8_140 : Cond.methodLink "RopeDance$Text" (140 : Nat) ({ cls := "RopeDance$Text", name := "calls", desc := "(LRopeDance$Row;LRopeDance$Square;III)Z" } : Jvm.MethodName) ∈ lw_g := xg (xin_4 (List.mem_of_getElem? (i := 139) rfl)) rfl
theorem wk_X8_mixed : Cond.code ({ cls := "RopeDance$Text", name := "mixed", desc := "(II)I" } : Jvm.MethodName) prog_10_method_19_code (3 : Nat) (Option.some Jvm.ClassFile.FieldType.int) ∈ lw_g := xg (xin_4 (List.mem_of_getElem? (i := 136) rfl)) rfl
theorem MK_X8_mixed : MK yX8_mixed bX8_mixed 3 (some .int) 2 := ⟨wn_X8, wk_X8_mixed, ⟨by decide, by decide, by decide +kernel⟩, by decide⟩
theorem ws_X8_mixed : Cond.static ({ cls := "RopeDance$Text", name := "mixed", desc := "(II)I" } : Jvm.MethodName) ∈ lw_g := xg (xin_4 (List.mem_of_getElem? (i := 135) rfl)) rfl
theorem wm_X8_144 : Cond.methodLink "RopeDance$Text" (144 : Nat) ({ cls := "RopeDance$Text", name := "mixed", desc := "(II)I" } : Jvm.MethodName) ∈ lw_g := xg (xin_4 (List.mem_of_getElem? (i := 134) rfl)) rfl
theorem wc_X8_147 : Cond.constant "RopeDance$Text" (147 : Nat) (1103515245 : Int32) ∈ lw_g := xg (xin_4 (List.mem_of_getElem? (i := 137) rfl)) rfl
theorem wf_X9_35 : Cond.fieldLink "RopeDance$Told" (35 : Nat) "RopeDance$Told" "length" "I" ∈ lw_g := xg (xin_2 (List.mem_of_getElem? (i := 90) rfl)) rfl
theorem wf_X9_11 : Cond.fieldLink "RopeDance$Told" (11 : Nat) "RopeDance$Told" "behinds" "[I" ∈ lw_g := xg (xin_2 (List.mem_of_getElem? (i := 96) rfl)) rfl
theorem wf_X9_15 : Cond.fieldLink "RopeDance$Told" (15 : Nat) "RopeDance$Told" "ends" "[I" ∈ lw_g := xg (xin_2 (List.mem_of_getElem? (i := 97) rfl)) rfl
theorem wf_X9_18 : Cond.fieldLink "RopeDance$Told" (18 : Nat) "RopeDance$Told" "are" "[Z" ∈ lw_g := xg (xin_2 (List.mem_of_getElem? (i := 98) rfl)) rfl
theorem wf_X9_39 : Cond.fieldLink "RopeDance$Told" (39 : Nat) "RopeDance$Told" "fitting" "I" ∈ lw_g := xg (xin_2 (List.mem_of_getElem? (i := 92) rfl)) rfl
theorem wf_X9_42 : Cond.fieldLink "RopeDance$Told" (42 : Nat) "RopeDance$Told" "first" "I" ∈ lw_g := xg (xin_2 (List.mem_of_getElem? (i := 94) rfl)) rfl
theorem wf_X9_32 : Cond.fieldLink "RopeDance$Told" (32 : Nat) "RopeDance$Told" "tallies" "[I" ∈ lw_g := xg (xin_2 (List.mem_of_getElem? (i := 101) rfl)) rfl
theorem wf_X9_45 : Cond.fieldLink "RopeDance$Told" (45 : Nat) "RopeDance$Text" "figures" "I" ∈ lw_g := xg (xin_1 (List.mem_of_getElem? (i := 185) rfl)) rfl
theorem wn_X9 : Cond.initialized "RopeDance$Told" ∈ lw_g := xg (xin_1 (List.mem_of_getElem? (i := 10) rfl)) rfl
theorem wk_X9_canBeCalled : Cond.code ({ cls := "RopeDance$Told", name := "canBeCalled", desc := "(LRopeDance$Text;LRopeDance$Square;III)Z" } : Jvm.MethodName) prog_11_method_5_code (9 : Nat) (Option.some Jvm.ClassFile.FieldType.boolean) ∈ lw_g := xg (xin_5 (List.mem_of_getElem? (i := 190) rfl)) rfl
theorem MK_X9_canBeCalled : MK yX9_canBeCalled bX9_canBeCalled 9 (some .boolean) 5 := ⟨wn_X9, wk_X9_canBeCalled, ⟨by decide, by decide, by decide +kernel⟩, by decide⟩
theorem wi_X9_canBeCalled : Cond.instanceMethod ({ cls := "RopeDance$Told", name := "canBeCalled", desc := "(LRopeDance$Text;LRopeDance$Square;III)Z" } : Jvm.MethodName) ∈ lw_g := xg (xin_5 (List.mem_of_getElem? (i := 189) rfl)) rfl
theorem we_X9_canBeCalled : Cond.selects "RopeDance$Told" yX9_canBeCalled yX9_canBeCalled ∈ lw_g := xg (xip_3 (List.mem_of_getElem? (i := 2) rfl)) rfl
theorem wm_X9_50 : Cond.methodLink "RopeDance$Told" (50 : Nat) ({ cls := "RopeDance$Told", name := "canBeCalled", desc := "(LRopeDance$Text;LRopeDance$Square;III)Z" } : Jvm.MethodName) ∈ lw_g := xg (xin_5 (List.mem_of_getElem? (i := 187) rfl)) rfl
theorem wk_X9_fits : Cond.code ({ cls := "RopeDance$Told", name := "fits", desc := "(II)Z" } : Jvm.MethodName) prog_11_method_6_code (5 : Nat) (Option.some Jvm.ClassFile.FieldType.boolean) ∈ lw_g := xg (xin_5 (List.mem_of_getElem? (i := 197) rfl)) rfl
theorem MK_X9_fits : MK yX9_fits bX9_fits 5 (some .boolean) 2 := ⟨wn_X9, wk_X9_fits, ⟨by decide, by decide, by decide +kernel⟩, by decide⟩
theorem wi_X9_fits : Cond.instanceMethod ({ cls := "RopeDance$Told", name := "fits", desc := "(II)Z" } : Jvm.MethodName) ∈ lw_g := xg (xin_5 (List.mem_of_getElem? (i := 196) rfl)) rfl
theorem we_X9_fits : Cond.selects "RopeDance$Told" yX9_fits yX9_fits ∈ lw_g := xg (xip_3 (List.mem_of_getElem? (i := 3) rfl)) rfl
theorem wm_X9_54 : Cond.methodLink "RopeDance$Told" (54 : Nat) ({ cls := "RopeDance$Told", name := "fits", desc := "(II)Z" } : Jvm.MethodName) ∈ lw_g := xg (xin_5 (List.mem_of_getElem? (i := 194) rfl)) rfl
theorem wk_X9_addFitting : Cond.code ({ cls := "RopeDance$Told", name := "addFitting", desc := "(II)V" } : Jvm.MethodName) prog_11_method_7_code (4 : Nat) (Option.none : Option Jvm.ClassFile.FieldType) ∈ lw_g := xg (xin_5 (List.mem_of_getElem? (i := 201) rfl)) rfl
theorem MK_X9_addFitting : MK yX9_addFitting bX9_addFitting 4 none 2 := ⟨wn_X9, wk_X9_addFitting, ⟨by decide, by decide, by decide +kernel⟩, by decide⟩
theorem wi_X9_addFitting : Cond.instanceMethod ({ cls := "RopeDance$Told", name := "addFitting", desc := "(II)V" } : Jvm.MethodName) ∈ lw_g := xg (xin_5 (List.mem_of_getElem? (i := 200) rfl)) rfl
theorem we_X9_addFitting : Cond.selects "RopeDance$Told" yX9_addFitting yX9_addFitting ∈ lw_g := xg (xip_3 (List.mem_of_getElem? (i := 4) rfl)) rfl
theorem wm_X9_58 : Cond.methodLink "RopeDance$Told" (58 : Nat) ({ cls := "RopeDance$Told", name := "addFitting", desc := "(II)V" } : Jvm.MethodName) ∈ lw_g := xg (xin_5 (List.mem_of_getElem? (i := 198) rfl)) rfl
theorem wf_X9_25 : Cond.fieldLink "RopeDance$Told" (25 : Nat) "RopeDance$Told" "tried" "LRopeDance$Square;" ∈ lw_g := xg (xin_2 (List.mem_of_getElem? (i := 99) rfl)) rfl
theorem wm_X9_62 : Cond.methodLink "RopeDance$Told" (62 : Nat) ({ cls := "RopeDance$Square", name := "takeTangle", desc := "(LRopeDance$Square;)V" } : Jvm.MethodName) ∈ lw_g := xg (xin_5 (List.mem_of_getElem? (i := 191) rfl)) rfl
theorem wf_X9_66 : Cond.fieldLink "RopeDance$Told" (66 : Nat) "RopeDance$Text" "figureRows" "[LRopeDance$Row;" ∈ lw_g := xg (xin_1 (List.mem_of_getElem? (i := 196) rfl)) rfl
theorem wf_X9_70 : Cond.fieldLink "RopeDance$Told" (70 : Nat) "RopeDance$Row" "length" "I" ∈ lw_g := xg (xin_1 (List.mem_of_getElem? (i := 111) rfl)) rfl
theorem wm_X9_73 : Cond.methodLink "RopeDance$Told" (73 : Nat) ({ cls := "RopeDance$Row", name := "makes", desc := "(LRopeDance$Square;I)Z" } : Jvm.MethodName) ∈ lw_g := xg (xin_5 (List.mem_of_getElem? (i := 192) rfl)) rfl
theorem wf_X9_29 : Cond.fieldLink "RopeDance$Told" (29 : Nat) "RopeDance$Told" "endsBehind" "[I" ∈ lw_g := xg (xin_2 (List.mem_of_getElem? (i := 100) rfl)) rfl
theorem wm_X9_77 : Cond.methodLink "RopeDance$Told" (77 : Nat) ({ cls := "RopeDance$Square", name := "ends", desc := "()I" } : Jvm.MethodName) ∈ lw_g := xg (xin_5 (List.mem_of_getElem? (i := 193) rfl)) rfl
theorem wm_X9_80 : Cond.methodLink "RopeDance$Told" (80 : Nat) ({ cls := "java/lang/Math", name := "max", desc := "(II)I" } : Jvm.MethodName) ∈ lw_g := xg (xin_5 (List.mem_of_getElem? (i := 210) rfl)) rfl
theorem wm_X10_30 : Cond.methodLink "RopeDance$Unwinding" (30 : Nat) ({ cls := "java/lang/Math", name := "abs", desc := "(I)I" } : Jvm.MethodName) ∈ lw_g := xg (xin_4 (List.mem_of_getElem? (i := 173) rfl)) rfl
theorem wf_X10_11 : Cond.fieldLink "RopeDance$Unwinding" (11 : Nat) "RopeDance$Unwinding" "fewestBehind" "[I" ∈ lw_g := xg (xin_4 (List.mem_of_getElem? (i := 179) rfl)) rfl
theorem wn_X10 : Cond.initialized "RopeDance$Unwinding" ∈ lw_g := xg (xin_1 (List.mem_of_getElem? (i := 18) rfl)) rfl
theorem wk_X10_at : Cond.code ({ cls := "RopeDance$Unwinding", name := "at", desc := "(II)I" } : Jvm.MethodName) prog_12_method_2_code (2 : Nat) (Option.some Jvm.ClassFile.FieldType.int) ∈ lw_g := xg (xin_4 (List.mem_of_getElem? (i := 168) rfl)) rfl
theorem MK_X10_at : MK yX10_at bX10_at 2 (some .int) 2 := ⟨wn_X10, wk_X10_at, ⟨by decide, by decide, by decide +kernel⟩, by decide⟩
theorem ws_X10_at : Cond.static ({ cls := "RopeDance$Unwinding", name := "at", desc := "(II)I" } : Jvm.MethodName) ∈ lw_g := xg (xin_4 (List.mem_of_getElem? (i := 167) rfl)) rfl
theorem wm_X10_20 : Cond.methodLink "RopeDance$Unwinding" (20 : Nat) ({ cls := "RopeDance$Unwinding", name := "at", desc := "(II)I" } : Jvm.MethodName) ∈ lw_g := xg (xin_4 (List.mem_of_getElem? (i := 166) rfl)) rfl
theorem wm_X10_36 : Cond.methodLink "RopeDance$Unwinding" (36 : Nat) ({ cls := "java/lang/Math", name := "min", desc := "(II)I" } : Jvm.MethodName) ∈ lw_g := xg (xin_4 (List.mem_of_getElem? (i := 174) rfl)) rfl
theorem wf_X10_17 : Cond.fieldLink "RopeDance$Unwinding" (17 : Nat) "RopeDance$Unwinding" "waysBehind" "[I" ∈ lw_g := xg (xin_4 (List.mem_of_getElem? (i := 180) rfl)) rfl
theorem wk_X10_goalOf : Cond.code ({ cls := "RopeDance$Unwinding", name := "goalOf", desc := "(II)I" } : Jvm.MethodName) prog_12_method_6_code (6 : Nat) (Option.some Jvm.ClassFile.FieldType.int) ∈ lw_g := xg (xin_4 (List.mem_of_getElem? (i := 203) rfl)) rfl
theorem MK_X10_goalOf : MK yX10_goalOf bX10_goalOf 6 (some .int) 2 := ⟨wn_X10, wk_X10_goalOf, ⟨by decide, by decide, by decide +kernel⟩, by decide⟩
theorem wi_X10_goalOf : Cond.instanceMethod ({ cls := "RopeDance$Unwinding", name := "goalOf", desc := "(II)I" } : Jvm.MethodName) ∈ lw_g := xg (xin_4 (List.mem_of_getElem? (i := 202) rfl)) rfl
theorem we_X10_goalOf : Cond.selects "RopeDance$Unwinding" yX10_goalOf yX10_goalOf ∈ lw_g := xg (xip_2 (List.mem_of_getElem? (i := 11) rfl)) rfl
theorem wm_X10_39 : Cond.methodLink "RopeDance$Unwinding" (39 : Nat) ({ cls := "RopeDance$Unwinding", name := "goalOf", desc := "(II)I" } : Jvm.MethodName) ∈ lw_g := xg (xin_4 (List.mem_of_getElem? (i := 200) rfl)) rfl
theorem wm_X10_42 : Cond.methodLink "RopeDance$Unwinding" (42 : Nat) ({ cls := "java/lang/Math", name := "floorMod", desc := "(II)I" } : Jvm.MethodName) ∈ lw_g := xg (xin_4 (List.mem_of_getElem? (i := 204) rfl)) rfl
theorem wf_X11_10 : Cond.fieldLink "RopeDance" (10 : Nat) "RopeDance" "tape" "LRopeDance$Tape;" ∈ lw_g := xg (xin_2 (List.mem_of_getElem? (i := 125) rfl)) rfl
theorem wm_X11_73 : Cond.methodLink "RopeDance" (73 : Nat) ({ cls := "RopeDance$Tape", name := "hasRoom", desc := "(I)Z" } : Jvm.MethodName) ∈ lw_g := xg (xin_2 (List.mem_of_getElem? (i := 166) rfl)) rfl
theorem wk_X7_append : Cond.code ({ cls := "RopeDance$Tape", name := "append", desc := "(I)V" } : Jvm.MethodName) prog_9_method_3_code (2 : Nat) (Option.none : Option Jvm.ClassFile.FieldType) ∈ lw_g := xg (xin_2 (List.mem_of_getElem? (i := 173) rfl)) rfl
theorem MK_X7_append : MK yX7_append bX7_append 2 none 1 := ⟨wn_X7, wk_X7_append, ⟨by decide, by decide, by decide +kernel⟩, by decide⟩
theorem wi_X7_append : Cond.instanceMethod ({ cls := "RopeDance$Tape", name := "append", desc := "(I)V" } : Jvm.MethodName) ∈ lw_g := xg (xin_2 (List.mem_of_getElem? (i := 171) rfl)) rfl
theorem we_X7_append : Cond.selects "RopeDance$Tape" yX7_append yX7_append ∈ lw_g := xg (xin_2 (List.mem_of_getElem? (i := 172) rfl)) rfl
theorem wm_X11_77 : Cond.methodLink "RopeDance" (77 : Nat) ({ cls := "RopeDance$Tape", name := "append", desc := "(I)V" } : Jvm.MethodName) ∈ lw_g := xg (xin_2 (List.mem_of_getElem? (i := 170) rfl)) rfl
theorem wf_X11_81 : Cond.fieldLink "RopeDance" (81 : Nat) "RopeDance$Tape" "length" "I" ∈ lw_g := xg (xin_1 (List.mem_of_getElem? (i := 35) rfl)) rfl
theorem wf_X11_31 : Cond.fieldLink "RopeDance" (31 : Nat) "RopeDance" "reader" "LRopeDance$Reader;" ∈ lw_g := xg (xin_2 (List.mem_of_getElem? (i := 126) rfl)) rfl
theorem wf_X11_23 : Cond.fieldLink "RopeDance" (23 : Nat) "RopeDance" "draft" "LRopeDance$Text;" ∈ lw_g := xg (xin_2 (List.mem_of_getElem? (i := 128) rfl)) rfl
theorem wk_X2_readInto : Cond.code ({ cls := "RopeDance$Reader", name := "readInto", desc := "(LRopeDance$Text;)V" } : Jvm.MethodName) prog_4_method_2_code (3 : Nat) (Option.none : Option Jvm.ClassFile.FieldType) ∈ lw_g := xg (xin_2 (List.mem_of_getElem? (i := 186) rfl)) rfl
theorem MK_X2_readInto : MK yX2_readInto bX2_readInto 3 none 1 := ⟨wn_X2, wk_X2_readInto, ⟨by decide, by decide, by decide +kernel⟩, by decide⟩
theorem wi_X2_readInto : Cond.instanceMethod ({ cls := "RopeDance$Reader", name := "readInto", desc := "(LRopeDance$Text;)V" } : Jvm.MethodName) ∈ lw_g := xg (xin_2 (List.mem_of_getElem? (i := 184) rfl)) rfl
theorem we_X2_readInto : Cond.selects "RopeDance$Reader" yX2_readInto yX2_readInto ∈ lw_g := xg (xin_2 (List.mem_of_getElem? (i := 185) rfl)) rfl
theorem wm_X11_85 : Cond.methodLink "RopeDance" (85 : Nat) ({ cls := "RopeDance$Reader", name := "readInto", desc := "(LRopeDance$Text;)V" } : Jvm.MethodName) ∈ lw_g := xg (xin_2 (List.mem_of_getElem? (i := 183) rfl)) rfl
theorem wf_X11_89 : Cond.fieldLink "RopeDance" (89 : Nat) "RopeDance$Reader" "fault" "I" ∈ lw_g := xg (xin_2 (List.mem_of_getElem? (i := 2) rfl)) rfl
theorem wk_X11_takeDraft : Cond.code ({ cls := "RopeDance", name := "takeDraft", desc := "()V" } : Jvm.MethodName) prog_1_method_41_code (2 : Nat) (Option.none : Option Jvm.ClassFile.FieldType) ∈ lw_g := xg (xin_3 (List.mem_of_getElem? (i := 233) rfl)) rfl
theorem MK_X11_takeDraft : MK yX11_takeDraft bX11_takeDraft 2 none 0 := ⟨wn_X11, wk_X11_takeDraft, ⟨by decide, by decide, by decide +kernel⟩, by decide⟩
theorem wi_X11_takeDraft : Cond.instanceMethod ({ cls := "RopeDance", name := "takeDraft", desc := "()V" } : Jvm.MethodName) ∈ lw_g := xg (xin_3 (List.mem_of_getElem? (i := 232) rfl)) rfl
theorem we_X11_takeDraft : Cond.selects "RopeDance" yX11_takeDraft yX11_takeDraft ∈ lw_g := xg (xip_2 (List.mem_of_getElem? (i := 5) rfl)) rfl
theorem wm_X11_92 : Cond.methodLink "RopeDance" (92 : Nat) ({ cls := "RopeDance", name := "takeDraft", desc := "()V" } : Jvm.MethodName) ∈ lw_g := xg (xin_3 (List.mem_of_getElem? (i := 230) rfl)) rfl
theorem wf_X11_95 : Cond.fieldLink "RopeDance" (95 : Nat) "RopeDance$Reader" "place" "I" ∈ lw_g := xg (xin_2 (List.mem_of_getElem? (i := 4) rfl)) rfl
theorem wk_X11_squareAt : Cond.code ({ cls := "RopeDance", name := "squareAt", desc := "(I)LRopeDance$Square;" } : Jvm.MethodName) prog_1_method_42_code (2 : Nat) (Option.some (Jvm.ClassFile.FieldType.object "RopeDance$Square")) ∈ lw_g := xg (xin_4 (List.mem_of_getElem? (i := 19) rfl)) rfl
theorem MK_X11_squareAt : MK yX11_squareAt bX11_squareAt 2 (some (.object "RopeDance$Square")) 1 := ⟨wn_X11, wk_X11_squareAt, ⟨by decide, by decide, by decide +kernel⟩, by decide⟩
theorem wi_X11_squareAt : Cond.instanceMethod ({ cls := "RopeDance", name := "squareAt", desc := "(I)LRopeDance$Square;" } : Jvm.MethodName) ∈ lw_g := xg (xin_4 (List.mem_of_getElem? (i := 18) rfl)) rfl
theorem we_X11_squareAt : Cond.selects "RopeDance" yX11_squareAt yX11_squareAt ∈ lw_g := xg (xip_2 (List.mem_of_getElem? (i := 6) rfl)) rfl
theorem wm_X11_98 : Cond.methodLink "RopeDance" (98 : Nat) ({ cls := "RopeDance", name := "squareAt", desc := "(I)LRopeDance$Square;" } : Jvm.MethodName) ∈ lw_g := xg (xin_4 (List.mem_of_getElem? (i := 16) rfl)) rfl
theorem wf_X11_102 : Cond.fieldLink "RopeDance" (102 : Nat) "RopeDance$Square" "p" "I" ∈ lw_g := xg (xin_1 (List.mem_of_getElem? (i := 139) rfl)) rfl
theorem wf_X11_105 : Cond.fieldLink "RopeDance" (105 : Nat) "RopeDance$Square" "q" "I" ∈ lw_g := xg (xin_1 (List.mem_of_getElem? (i := 145) rfl)) rfl
theorem wm_X11_108 : Cond.methodLink "RopeDance" (108 : Nat) ({ cls := "RopeDance$Square", name := "crossings", desc := "()I" } : Jvm.MethodName) ∈ lw_g := xg (xin_4 (List.mem_of_getElem? (i := 20) rfl)) rfl
theorem wm_X11_112 : Cond.methodLink "RopeDance" (112 : Nat) ({ cls := "RopeDance$Square", name := "ends", desc := "()I" } : Jvm.MethodName) ∈ lw_g := xg (xin_4 (List.mem_of_getElem? (i := 27) rfl)) rfl
theorem wf_X11_115 : Cond.fieldLink "RopeDance" (115 : Nat) "RopeDance$Square" "tired" "I" ∈ lw_g := xg (xin_1 (List.mem_of_getElem? (i := 150) rfl)) rfl
theorem wf_X11_19 : Cond.fieldLink "RopeDance" (19 : Nat) "RopeDance" "text" "LRopeDance$Text;" ∈ lw_g := xg (xin_2 (List.mem_of_getElem? (i := 127) rfl)) rfl
theorem wf_X11_38 : Cond.fieldLink "RopeDance" (38 : Nat) "RopeDance" "now" "LRopeDance$Evening;" ∈ lw_g := xg (xin_2 (List.mem_of_getElem? (i := 129) rfl)) rfl
theorem wf_X11_118 : Cond.fieldLink "RopeDance" (118 : Nat) "RopeDance$Evening" "minute" "I" ∈ lw_g := xg (xin_2 (List.mem_of_getElem? (i := 46) rfl)) rfl
theorem wm_X11_121 : Cond.methodLink "RopeDance" (121 : Nat) ({ cls := "RopeDance$Text", name := "worth", desc := "(ILRopeDance$Square;III)I" } : Jvm.MethodName) ∈ lw_g := xg (xin_4 (List.mem_of_getElem? (i := 34) rfl)) rfl
theorem wf_X11_125 : Cond.fieldLink "RopeDance" (125 : Nat) "RopeDance$Square" "called" "I" ∈ lw_g := xg (xin_1 (List.mem_of_getElem? (i := 154) rfl)) rfl
theorem wk_X11_figureAt : Cond.code ({ cls := "RopeDance", name := "figureAt", desc := "(I)LRopeDance$Row;" } : Jvm.MethodName) prog_1_method_43_code (2 : Nat) (Option.some (Jvm.ClassFile.FieldType.object "RopeDance$Row")) ∈ lw_g := xg (xin_4 (List.mem_of_getElem? (i := 61) rfl)) rfl
theorem MK_X11_figureAt : MK yX11_figureAt bX11_figureAt 2 (some (.object "RopeDance$Row")) 1 := ⟨wn_X11, wk_X11_figureAt, ⟨by decide, by decide, by decide +kernel⟩, by decide⟩
theorem wi_X11_figureAt : Cond.instanceMethod ({ cls := "RopeDance", name := "figureAt", desc := "(I)LRopeDance$Row;" } : Jvm.MethodName) ∈ lw_g := xg (xin_4 (List.mem_of_getElem? (i := 60) rfl)) rfl
theorem we_X11_figureAt : Cond.selects "RopeDance" yX11_figureAt yX11_figureAt ∈ lw_g := xg (xip_2 (List.mem_of_getElem? (i := 9) rfl)) rfl
theorem wm_X11_128 : Cond.methodLink "RopeDance" (128 : Nat) ({ cls := "RopeDance", name := "figureAt", desc := "(I)LRopeDance$Row;" } : Jvm.MethodName) ∈ lw_g := xg (xin_4 (List.mem_of_getElem? (i := 58) rfl)) rfl
theorem wc_X11_132 : Cond.constant "RopeDance" (132 : Nat) (-1000000000 : Int32) ∈ lw_g := xg (xin_4 (List.mem_of_getElem? (i := 62) rfl)) rfl
theorem wf_X11_136 : Cond.fieldLink "RopeDance" (136 : Nat) "RopeDance$Row" "table" "LRopeDance$Table;" ∈ lw_g := xg (xin_1 (List.mem_of_getElem? (i := 116) rfl)) rfl
theorem wm_X11_139 : Cond.methodLink "RopeDance" (139 : Nat) ({ cls := "RopeDance$Table", name := "sign", desc := "()I" } : Jvm.MethodName) ∈ lw_g := xg (xin_4 (List.mem_of_getElem? (i := 63) rfl)) rfl
theorem wk_X6_part : Cond.code ({ cls := "RopeDance$Table", name := "part", desc := "(I)I" } : Jvm.MethodName) prog_8_method_6_code (2 : Nat) (Option.some Jvm.ClassFile.FieldType.int) ∈ lw_g := xg (xin_4 (List.mem_of_getElem? (i := 70) rfl)) rfl
theorem MK_X6_part : MK yX6_part bX6_part 2 (some .int) 1 := ⟨wn_X6, wk_X6_part, ⟨by decide, by decide, by decide +kernel⟩, by decide⟩
theorem wi_X6_part : Cond.instanceMethod ({ cls := "RopeDance$Table", name := "part", desc := "(I)I" } : Jvm.MethodName) ∈ lw_g := xg (xin_4 (List.mem_of_getElem? (i := 68) rfl)) rfl
theorem we_X6_part : Cond.selects "RopeDance$Table" yX6_part yX6_part ∈ lw_g := xg (xin_4 (List.mem_of_getElem? (i := 69) rfl)) rfl
theorem wm_X11_142 : Cond.methodLink "RopeDance" (142 : Nat) ({ cls := "RopeDance$Table", name := "part", desc := "(I)I" } : Jvm.MethodName) ∈ lw_g := xg (xin_4 (List.mem_of_getElem? (i := 67) rfl)) rfl
theorem wf_X11_133 : Cond.fieldLink "RopeDance" (133 : Nat) "RopeDance$Row" "length" "I" ∈ lw_g := xg (xin_1 (List.mem_of_getElem? (i := 112) rfl)) rfl
theorem wf_X11_59 : Cond.fieldLink "RopeDance" (59 : Nat) "RopeDance" "tried" "LRopeDance$Square;" ∈ lw_g := xg (xin_2 (List.mem_of_getElem? (i := 132) rfl)) rfl
theorem wm_X11_146 : Cond.methodLink "RopeDance" (146 : Nat) ({ cls := "RopeDance$Square", name := "takeTangle", desc := "(LRopeDance$Square;)V" } : Jvm.MethodName) ∈ lw_g := xg (xin_4 (List.mem_of_getElem? (i := 79) rfl)) rfl
theorem wm_X11_150 : Cond.methodLink "RopeDance" (150 : Nat) ({ cls := "RopeDance$Row", name := "makes", desc := "(LRopeDance$Square;I)Z" } : Jvm.MethodName) ∈ lw_g := xg (xin_4 (List.mem_of_getElem? (i := 83) rfl)) rfl
theorem wf_X11_45 : Cond.fieldLink "RopeDance" (45 : Nat) "RopeDance" "memory" "LRopeDance$Memory;" ∈ lw_g := xg (xin_2 (List.mem_of_getElem? (i := 130) rfl)) rfl
theorem wn_X1 : Cond.initialized "RopeDance$Memory" ∈ lw_g := xg (xin_1 (List.mem_of_getElem? (i := 9) rfl)) rfl
theorem wk_X1_remember : Cond.code ({ cls := "RopeDance$Memory", name := "remember", desc := "(LRopeDance$Evening;)V" } : Jvm.MethodName) prog_3_method_3_code (2 : Nat) (Option.none : Option Jvm.ClassFile.FieldType) ∈ lw_g := xg (xin_4 (List.mem_of_getElem? (i := 91) rfl)) rfl
theorem MK_X1_remember : MK yX1_remember bX1_remember 2 none 1 := ⟨wn_X1, wk_X1_remember, ⟨by decide, by decide, by decide +kernel⟩, by decide⟩
theorem wi_X1_remember : Cond.instanceMethod ({ cls := "RopeDance$Memory", name := "remember", desc := "(LRopeDance$Evening;)V" } : Jvm.MethodName) ∈ lw_g := xg (xin_4 (List.mem_of_getElem? (i := 89) rfl)) rfl
theorem we_X1_remember : Cond.selects "RopeDance$Memory" yX1_remember yX1_remember ∈ lw_g := xg (xin_4 (List.mem_of_getElem? (i := 90) rfl)) rfl
theorem wm_X11_154 : Cond.methodLink "RopeDance" (154 : Nat) ({ cls := "RopeDance$Memory", name := "remember", desc := "(LRopeDance$Evening;)V" } : Jvm.MethodName) ∈ lw_g := xg (xin_4 (List.mem_of_getElem? (i := 88) rfl)) rfl
theorem wm_X11_158 : Cond.methodLink "RopeDance" (158 : Nat) ({ cls := "RopeDance$Text", name := "calls", desc := "(LRopeDance$Row;LRopeDance$Square;III)Z" } : Jvm.MethodName) ∈ lw_g := xg (xin_4 (List.mem_of_getElem? (i := 97) rfl)) rfl
theorem wm_X11_162 : Cond.methodLink "RopeDance" (162 : Nat) ({ cls := "RopeDance$Square", name := "makes", desc := "(II)Z" } : Jvm.MethodName) ∈ lw_g := xg (xin_4 (List.mem_of_getElem? (i := 108) rfl)) rfl
theorem wk_X5_isUndone : Cond.code ({ cls := "RopeDance$Square", name := "isUndone", desc := "()Z" } : Jvm.MethodName) prog_7_method_7_code (1 : Nat) (Option.some Jvm.ClassFile.FieldType.boolean) ∈ lw_g := xg (xin_4 (List.mem_of_getElem? (i := 116) rfl)) rfl
theorem MK_X5_isUndone : MK yX5_isUndone bX5_isUndone 1 (some .boolean) 0 := ⟨wn_X5, wk_X5_isUndone, ⟨by decide, by decide, by decide +kernel⟩, by decide⟩
theorem wi_X5_isUndone : Cond.instanceMethod ({ cls := "RopeDance$Square", name := "isUndone", desc := "()Z" } : Jvm.MethodName) ∈ lw_g := xg (xin_4 (List.mem_of_getElem? (i := 114) rfl)) rfl
theorem we_X5_isUndone : Cond.selects "RopeDance$Square" yX5_isUndone yX5_isUndone ∈ lw_g := xg (xin_4 (List.mem_of_getElem? (i := 115) rfl)) rfl
theorem wm_X11_165 : Cond.methodLink "RopeDance" (165 : Nat) ({ cls := "RopeDance$Square", name := "isUndone", desc := "()Z" } : Jvm.MethodName) ∈ lw_g := xg (xin_4 (List.mem_of_getElem? (i := 113) rfl)) rfl
theorem wm_X11_169 : Cond.methodLink "RopeDance" (169 : Nat) ({ cls := "RopeDance$Square", name := "letGo", desc := "()V" } : Jvm.MethodName) ∈ lw_g := xg (xin_4 (List.mem_of_getElem? (i := 117) rfl)) rfl
theorem wk_X0_passMinute : Cond.code ({ cls := "RopeDance$Evening", name := "passMinute", desc := "(LRopeDance$Text;)V" } : Jvm.MethodName) prog_2_method_3_code (3 : Nat) (Option.none : Option Jvm.ClassFile.FieldType) ∈ lw_g := xg (xin_4 (List.mem_of_getElem? (i := 125) rfl)) rfl
theorem MK_X0_passMinute : MK yX0_passMinute bX0_passMinute 3 none 1 := ⟨wn_X0, wk_X0_passMinute, ⟨by decide, by decide, by decide +kernel⟩, by decide⟩
theorem wi_X0_passMinute : Cond.instanceMethod ({ cls := "RopeDance$Evening", name := "passMinute", desc := "(LRopeDance$Text;)V" } : Jvm.MethodName) ∈ lw_g := xg (xin_4 (List.mem_of_getElem? (i := 123) rfl)) rfl
theorem we_X0_passMinute : Cond.selects "RopeDance$Evening" yX0_passMinute yX0_passMinute ∈ lw_g := xg (xin_4 (List.mem_of_getElem? (i := 124) rfl)) rfl
theorem wm_X11_172 : Cond.methodLink "RopeDance" (172 : Nat) ({ cls := "RopeDance$Evening", name := "passMinute", desc := "(LRopeDance$Text;)V" } : Jvm.MethodName) ∈ lw_g := xg (xin_4 (List.mem_of_getElem? (i := 122) rfl)) rfl
theorem wk_X1_takeBack : Cond.code ({ cls := "RopeDance$Memory", name := "takeBack", desc := "(LRopeDance$Evening;)Z" } : Jvm.MethodName) prog_3_method_4_code (2 : Nat) (Option.some Jvm.ClassFile.FieldType.boolean) ∈ lw_g := xg (xin_4 (List.mem_of_getElem? (i := 147) rfl)) rfl
theorem MK_X1_takeBack : MK yX1_takeBack bX1_takeBack 2 (some .boolean) 1 := ⟨wn_X1, wk_X1_takeBack, ⟨by decide, by decide, by decide +kernel⟩, by decide⟩
theorem wi_X1_takeBack : Cond.instanceMethod ({ cls := "RopeDance$Memory", name := "takeBack", desc := "(LRopeDance$Evening;)Z" } : Jvm.MethodName) ∈ lw_g := xg (xin_4 (List.mem_of_getElem? (i := 145) rfl)) rfl
theorem we_X1_takeBack : Cond.selects "RopeDance$Memory" yX1_takeBack yX1_takeBack ∈ lw_g := xg (xin_4 (List.mem_of_getElem? (i := 146) rfl)) rfl
theorem wm_X11_175 : Cond.methodLink "RopeDance" (175 : Nat) ({ cls := "RopeDance$Memory", name := "takeBack", desc := "(LRopeDance$Evening;)Z" } : Jvm.MethodName) ∈ lw_g := xg (xin_4 (List.mem_of_getElem? (i := 144) rfl)) rfl
theorem wk_X11_unwinding : Cond.code ({ cls := "RopeDance", name := "unwinding", desc := "()LRopeDance$Unwinding;" } : Jvm.MethodName) prog_1_method_45_code (1 : Nat) (Option.some (Jvm.ClassFile.FieldType.object "RopeDance$Unwinding")) ∈ lw_g := xg (xin_4 (List.mem_of_getElem? (i := 159) rfl)) rfl
theorem MK_X11_unwinding : MK yX11_unwinding bX11_unwinding 1 (some (.object "RopeDance$Unwinding")) 0 := ⟨wn_X11, wk_X11_unwinding, ⟨by decide, by decide, by decide +kernel⟩, by decide⟩
theorem wi_X11_unwinding : Cond.instanceMethod ({ cls := "RopeDance", name := "unwinding", desc := "()LRopeDance$Unwinding;" } : Jvm.MethodName) ∈ lw_g := xg (xin_4 (List.mem_of_getElem? (i := 158) rfl)) rfl
theorem we_X11_unwinding : Cond.selects "RopeDance" yX11_unwinding yX11_unwinding ∈ lw_g := xg (xip_2 (List.mem_of_getElem? (i := 10) rfl)) rfl
theorem wm_X11_179 : Cond.methodLink "RopeDance" (179 : Nat) ({ cls := "RopeDance", name := "unwinding", desc := "()LRopeDance$Unwinding;" } : Jvm.MethodName) ∈ lw_g := xg (xin_4 (List.mem_of_getElem? (i := 156) rfl)) rfl
theorem wk_X10_fewest : Cond.code ({ cls := "RopeDance$Unwinding", name := "fewest", desc := "(II)I" } : Jvm.MethodName) prog_12_method_3_code (6 : Nat) (Option.some Jvm.ClassFile.FieldType.int) ∈ lw_g := xg (xin_4 (List.mem_of_getElem? (i := 172) rfl)) rfl
theorem MK_X10_fewest : MK yX10_fewest bX10_fewest 6 (some .int) 2 := ⟨wn_X10, wk_X10_fewest, ⟨by decide, by decide, by decide +kernel⟩, by decide⟩
theorem wi_X10_fewest : Cond.instanceMethod ({ cls := "RopeDance$Unwinding", name := "fewest", desc := "(II)I" } : Jvm.MethodName) ∈ lw_g := xg (xin_4 (List.mem_of_getElem? (i := 170) rfl)) rfl
theorem we_X10_fewest : Cond.selects "RopeDance$Unwinding" yX10_fewest yX10_fewest ∈ lw_g := xg (xin_4 (List.mem_of_getElem? (i := 171) rfl)) rfl
theorem wm_X11_183 : Cond.methodLink "RopeDance" (183 : Nat) ({ cls := "RopeDance$Unwinding", name := "fewest", desc := "(II)I" } : Jvm.MethodName) ∈ lw_g := xg (xin_4 (List.mem_of_getElem? (i := 186) rfl)) rfl
theorem wk_X10_howMany : Cond.code ({ cls := "RopeDance$Unwinding", name := "howMany", desc := "(II)I" } : Jvm.MethodName) prog_12_method_4_code (4 : Nat) (Option.some Jvm.ClassFile.FieldType.int) ∈ lw_g := xg (xin_4 (List.mem_of_getElem? (i := 178) rfl)) rfl
theorem MK_X10_howMany : MK yX10_howMany bX10_howMany 4 (some .int) 2 := ⟨wn_X10, wk_X10_howMany, ⟨by decide, by decide, by decide +kernel⟩, by decide⟩
theorem wi_X10_howMany : Cond.instanceMethod ({ cls := "RopeDance$Unwinding", name := "howMany", desc := "(II)I" } : Jvm.MethodName) ∈ lw_g := xg (xin_4 (List.mem_of_getElem? (i := 176) rfl)) rfl
theorem we_X10_howMany : Cond.selects "RopeDance$Unwinding" yX10_howMany yX10_howMany ∈ lw_g := xg (xin_4 (List.mem_of_getElem? (i := 177) rfl)) rfl
theorem wm_X11_189 : Cond.methodLink "RopeDance" (189 : Nat) ({ cls := "RopeDance$Unwinding", name := "howMany", desc := "(II)I" } : Jvm.MethodName) ∈ lw_g := xg (xin_4 (List.mem_of_getElem? (i := 191) rfl)) rfl
theorem wk_X10_thing : Cond.code ({ cls := "RopeDance$Unwinding", name := "thing", desc := "(III)I" } : Jvm.MethodName) prog_12_method_5_code (10 : Nat) (Option.some Jvm.ClassFile.FieldType.int) ∈ lw_g := xg (xin_4 (List.mem_of_getElem? (i := 199) rfl)) rfl
theorem MK_X10_thing : MK yX10_thing bX10_thing 10 (some .int) 3 := ⟨wn_X10, wk_X10_thing, ⟨by decide, by decide, by decide +kernel⟩, by decide⟩
theorem wi_X10_thing : Cond.instanceMethod ({ cls := "RopeDance$Unwinding", name := "thing", desc := "(III)I" } : Jvm.MethodName) ∈ lw_g := xg (xin_4 (List.mem_of_getElem? (i := 197) rfl)) rfl
theorem we_X10_thing : Cond.selects "RopeDance$Unwinding" yX10_thing yX10_thing ∈ lw_g := xg (xin_4 (List.mem_of_getElem? (i := 198) rfl)) rfl
theorem wm_X11_192 : Cond.methodLink "RopeDance" (192 : Nat) ({ cls := "RopeDance$Unwinding", name := "thing", desc := "(III)I" } : Jvm.MethodName) ∈ lw_g := xg (xin_4 (List.mem_of_getElem? (i := 196) rfl)) rfl
theorem wk_X11_figuresTo : Cond.code ({ cls := "RopeDance", name := "figuresTo", desc := "(LRopeDance$Square;LRopeDance$Square;I)I" } : Jvm.MethodName) prog_1_method_47_code (7 : Nat) (Option.some Jvm.ClassFile.FieldType.int) ∈ lw_g := xg (xin_4 (List.mem_of_getElem? (i := 214) rfl)) rfl
theorem MK_X11_figuresTo : MK yX11_figuresTo bX11_figuresTo 7 (some .int) 3 := ⟨wn_X11, wk_X11_figuresTo, ⟨by decide, by decide, by decide +kernel⟩, by decide⟩
theorem wi_X11_figuresTo : Cond.instanceMethod ({ cls := "RopeDance", name := "figuresTo", desc := "(LRopeDance$Square;LRopeDance$Square;I)I" } : Jvm.MethodName) ∈ lw_g := xg (xin_4 (List.mem_of_getElem? (i := 213) rfl)) rfl
theorem we_X11_figuresTo : Cond.selects "RopeDance" yX11_figuresTo yX11_figuresTo ∈ lw_g := xg (xip_2 (List.mem_of_getElem? (i := 12) rfl)) rfl
theorem wm_X11_196 : Cond.methodLink "RopeDance" (196 : Nat) ({ cls := "RopeDance", name := "figuresTo", desc := "(LRopeDance$Square;LRopeDance$Square;I)I" } : Jvm.MethodName) ∈ lw_g := xg (xin_4 (List.mem_of_getElem? (i := 211) rfl)) rfl
theorem wk_X11_searchFrom : Cond.code ({ cls := "RopeDance", name := "searchFrom", desc := "(LRopeDance$Square;)LRopeDance$Search;" } : Jvm.MethodName) prog_1_method_46_code (2 : Nat) (Option.some (Jvm.ClassFile.FieldType.object "RopeDance$Search")) ∈ lw_g := xg (xin_4 (List.mem_of_getElem? (i := 222) rfl)) rfl
theorem MK_X11_searchFrom : MK yX11_searchFrom bX11_searchFrom 2 (some (.object "RopeDance$Search")) 1 := ⟨wn_X11, wk_X11_searchFrom, ⟨by decide, by decide, by decide +kernel⟩, by decide⟩
theorem wi_X11_searchFrom : Cond.instanceMethod ({ cls := "RopeDance", name := "searchFrom", desc := "(LRopeDance$Square;)LRopeDance$Search;" } : Jvm.MethodName) ∈ lw_g := xg (xin_4 (List.mem_of_getElem? (i := 221) rfl)) rfl
theorem we_X11_searchFrom : Cond.selects "RopeDance" yX11_searchFrom yX11_searchFrom ∈ lw_g := xg (xip_2 (List.mem_of_getElem? (i := 13) rfl)) rfl
theorem wm_X11_200 : Cond.methodLink "RopeDance" (200 : Nat) ({ cls := "RopeDance", name := "searchFrom", desc := "(LRopeDance$Square;)LRopeDance$Search;" } : Jvm.MethodName) ∈ lw_g := xg (xin_4 (List.mem_of_getElem? (i := 219) rfl)) rfl
theorem wf_X11_204 : Cond.fieldLink "RopeDance" (204 : Nat) "RopeDance$Search" "found" "I" ∈ lw_g := xg (xin_4 (List.mem_of_getElem? (i := 232) rfl)) rfl
theorem wk_X5_closedP : Cond.code ({ cls := "RopeDance$Square", name := "closedP", desc := "()I" } : Jvm.MethodName) prog_7_method_12_code (1 : Nat) (Option.some Jvm.ClassFile.FieldType.int) ∈ lw_g := xg (xin_5 (List.mem_of_getElem? (i := 45) rfl)) rfl
theorem MK_X5_closedP : MK yX5_closedP bX5_closedP 1 (some .int) 0 := ⟨wn_X5, wk_X5_closedP, ⟨by decide, by decide, by decide +kernel⟩, by decide⟩
theorem wi_X5_closedP : Cond.instanceMethod ({ cls := "RopeDance$Square", name := "closedP", desc := "()I" } : Jvm.MethodName) ∈ lw_g := xg (xin_5 (List.mem_of_getElem? (i := 43) rfl)) rfl
theorem we_X5_closedP : Cond.selects "RopeDance$Square" yX5_closedP yX5_closedP ∈ lw_g := xg (xin_5 (List.mem_of_getElem? (i := 44) rfl)) rfl
theorem wm_X11_209 : Cond.methodLink "RopeDance" (209 : Nat) ({ cls := "RopeDance$Square", name := "closedP", desc := "()I" } : Jvm.MethodName) ∈ lw_g := xg (xin_5 (List.mem_of_getElem? (i := 42) rfl)) rfl
theorem wk_X5_closedQ : Cond.code ({ cls := "RopeDance$Square", name := "closedQ", desc := "()I" } : Jvm.MethodName) prog_7_method_13_code (1 : Nat) (Option.some Jvm.ClassFile.FieldType.int) ∈ lw_g := xg (xin_5 (List.mem_of_getElem? (i := 49) rfl)) rfl
theorem MK_X5_closedQ : MK yX5_closedQ bX5_closedQ 1 (some .int) 0 := ⟨wn_X5, wk_X5_closedQ, ⟨by decide, by decide, by decide +kernel⟩, by decide⟩
theorem wi_X5_closedQ : Cond.instanceMethod ({ cls := "RopeDance$Square", name := "closedQ", desc := "()I" } : Jvm.MethodName) ∈ lw_g := xg (xin_5 (List.mem_of_getElem? (i := 47) rfl)) rfl
theorem we_X5_closedQ : Cond.selects "RopeDance$Square" yX5_closedQ yX5_closedQ ∈ lw_g := xg (xin_5 (List.mem_of_getElem? (i := 48) rfl)) rfl
theorem wm_X11_212 : Cond.methodLink "RopeDance" (212 : Nat) ({ cls := "RopeDance$Square", name := "closedQ", desc := "()I" } : Jvm.MethodName) ∈ lw_g := xg (xin_5 (List.mem_of_getElem? (i := 46) rfl)) rfl
theorem wk_X11_isDivisor : Cond.code ({ cls := "RopeDance", name := "isDivisor", desc := "(I)Z" } : Jvm.MethodName) prog_1_method_44_code (1 : Nat) (Option.some Jvm.ClassFile.FieldType.boolean) ∈ lw_g := xg (xin_5 (List.mem_of_getElem? (i := 61) rfl)) rfl
theorem MK_X11_isDivisor : MK yX11_isDivisor bX11_isDivisor 1 (some .boolean) 1 := ⟨wn_X11, wk_X11_isDivisor, ⟨by decide, by decide, by decide +kernel⟩, by decide⟩
theorem ws_X11_isDivisor : Cond.static ({ cls := "RopeDance", name := "isDivisor", desc := "(I)Z" } : Jvm.MethodName) ∈ lw_g := xg (xin_5 (List.mem_of_getElem? (i := 60) rfl)) rfl
theorem wm_X11_215 : Cond.methodLink "RopeDance" (215 : Nat) ({ cls := "RopeDance", name := "isDivisor", desc := "(I)Z" } : Jvm.MethodName) ∈ lw_g := xg (xin_5 (List.mem_of_getElem? (i := 59) rfl)) rfl
theorem wm_X11_218 : Cond.methodLink "RopeDance" (218 : Nat) ({ cls := "RopeDance", name := "greatest", desc := "(II)I" } : Jvm.MethodName) ∈ lw_g := xg (xin_5 (List.mem_of_getElem? (i := 62) rfl)) rfl
theorem wm_X11_221 : Cond.methodLink "RopeDance" (221 : Nat) ({ cls := "java/lang/Math", name := "abs", desc := "(I)I" } : Jvm.MethodName) ∈ lw_g := xg (xin_5 (List.mem_of_getElem? (i := 69) rfl)) rfl
theorem wm_X11_226 : Cond.methodLink "RopeDance" (226 : Nat) ({ cls := "RopeDance$Table", name := "isNothing", desc := "()Z" } : Jvm.MethodName) ∈ lw_g := xg (xin_5 (List.mem_of_getElem? (i := 74) rfl)) rfl
theorem wm_X11_229 : Cond.methodLink "RopeDance" (229 : Nat) ({ cls := "RopeDance$Table", name := "trace", desc := "()I" } : Jvm.MethodName) ∈ lw_g := xg (xin_5 (List.mem_of_getElem? (i := 78) rfl)) rfl
theorem wk_X11_roundOf : Cond.code ({ cls := "RopeDance", name := "roundOf", desc := "(LRopeDance$Table;I)I" } : Jvm.MethodName) prog_1_method_48_code (4 : Nat) (Option.some Jvm.ClassFile.FieldType.int) ∈ lw_g := xg (xin_5 (List.mem_of_getElem? (i := 89) rfl)) rfl
theorem MK_X11_roundOf : MK yX11_roundOf bX11_roundOf 4 (some .int) 2 := ⟨wn_X11, wk_X11_roundOf, ⟨by decide, by decide, by decide +kernel⟩, by decide⟩
theorem wi_X11_roundOf : Cond.instanceMethod ({ cls := "RopeDance", name := "roundOf", desc := "(LRopeDance$Table;I)I" } : Jvm.MethodName) ∈ lw_g := xg (xin_5 (List.mem_of_getElem? (i := 88) rfl)) rfl
theorem we_X11_roundOf : Cond.selects "RopeDance" yX11_roundOf yX11_roundOf ∈ lw_g := xg (xip_3 (List.mem_of_getElem? (i := 0) rfl)) rfl
theorem wm_X11_232 : Cond.methodLink "RopeDance" (232 : Nat) ({ cls := "RopeDance", name := "roundOf", desc := "(LRopeDance$Table;I)I" } : Jvm.MethodName) ∈ lw_g := xg (xin_5 (List.mem_of_getElem? (i := 86) rfl)) rfl
theorem wc_X11_236 : Cond.constant "RopeDance" (236 : Nat) (1000000000 : Int32) ∈ lw_g := xg (xin_5 (List.mem_of_getElem? (i := 109) rfl)) rfl
theorem wf_X11_70 : Cond.fieldLink "RopeDance" (70 : Nat) "RopeDance" "otherTable" "LRopeDance$Table;" ∈ lw_g := xg (xin_2 (List.mem_of_getElem? (i := 134) rfl)) rfl
theorem wk_X6_restsOf : Cond.code ({ cls := "RopeDance$Table", name := "restsOf", desc := "(LRopeDance$Table;I)V" } : Jvm.MethodName) prog_8_method_5_code (3 : Nat) (Option.none : Option Jvm.ClassFile.FieldType) ∈ lw_g := xg (xin_5 (List.mem_of_getElem? (i := 99) rfl)) rfl
theorem MK_X6_restsOf : MK yX6_restsOf bX6_restsOf 3 none 2 := ⟨wn_X6, wk_X6_restsOf, ⟨by decide, by decide, by decide +kernel⟩, by decide⟩
theorem wi_X6_restsOf : Cond.instanceMethod ({ cls := "RopeDance$Table", name := "restsOf", desc := "(LRopeDance$Table;I)V" } : Jvm.MethodName) ∈ lw_g := xg (xin_5 (List.mem_of_getElem? (i := 97) rfl)) rfl
theorem we_X6_restsOf : Cond.selects "RopeDance$Table" yX6_restsOf yX6_restsOf ∈ lw_g := xg (xin_5 (List.mem_of_getElem? (i := 98) rfl)) rfl
theorem wm_X11_237 : Cond.methodLink "RopeDance" (237 : Nat) ({ cls := "RopeDance$Table", name := "restsOf", desc := "(LRopeDance$Table;I)V" } : Jvm.MethodName) ∈ lw_g := xg (xin_5 (List.mem_of_getElem? (i := 96) rfl)) rfl
theorem wf_X11_66 : Cond.fieldLink "RopeDance" (66 : Nat) "RopeDance" "oneTable" "LRopeDance$Table;" ∈ lw_g := xg (xin_2 (List.mem_of_getElem? (i := 133) rfl)) rfl
theorem wm_X11_241 : Cond.methodLink "RopeDance" (241 : Nat) ({ cls := "RopeDance$Table", name := "clear", desc := "()V" } : Jvm.MethodName) ∈ lw_g := xg (xin_5 (List.mem_of_getElem? (i := 90) rfl)) rfl
theorem wk_X6_become : Cond.code ({ cls := "RopeDance$Table", name := "become", desc := "(LRopeDance$Table;LRopeDance$Table;)V" } : Jvm.MethodName) prog_8_method_4_code (7 : Nat) (Option.none : Option Jvm.ClassFile.FieldType) ∈ lw_g := xg (xin_5 (List.mem_of_getElem? (i := 95) rfl)) rfl
theorem MK_X6_become : MK yX6_become bX6_become 7 none 2 := ⟨wn_X6, wk_X6_become, ⟨by decide, by decide, by decide +kernel⟩, by decide⟩
theorem wi_X6_become : Cond.instanceMethod ({ cls := "RopeDance$Table", name := "become", desc := "(LRopeDance$Table;LRopeDance$Table;)V" } : Jvm.MethodName) ∈ lw_g := xg (xin_5 (List.mem_of_getElem? (i := 93) rfl)) rfl
theorem we_X6_become : Cond.selects "RopeDance$Table" yX6_become yX6_become ∈ lw_g := xg (xin_5 (List.mem_of_getElem? (i := 94) rfl)) rfl
theorem wm_X11_244 : Cond.methodLink "RopeDance" (244 : Nat) ({ cls := "RopeDance$Table", name := "become", desc := "(LRopeDance$Table;LRopeDance$Table;)V" } : Jvm.MethodName) ∈ lw_g := xg (xin_5 (List.mem_of_getElem? (i := 92) rfl)) rfl
theorem wk_X6_stay : Cond.code ({ cls := "RopeDance$Table", name := "stay", desc := "(LRopeDance$Square;)I" } : Jvm.MethodName) prog_8_method_13_code (5 : Nat) (Option.some Jvm.ClassFile.FieldType.int) ∈ lw_g := xg (xin_5 (List.mem_of_getElem? (i := 117) rfl)) rfl
theorem MK_X6_stay : MK yX6_stay bX6_stay 5 (some .int) 1 := ⟨wn_X6, wk_X6_stay, ⟨by decide, by decide, by decide +kernel⟩, by decide⟩
theorem wi_X6_stay : Cond.instanceMethod ({ cls := "RopeDance$Table", name := "stay", desc := "(LRopeDance$Square;)I" } : Jvm.MethodName) ∈ lw_g := xg (xin_5 (List.mem_of_getElem? (i := 115) rfl)) rfl
theorem we_X6_stay : Cond.selects "RopeDance$Table" yX6_stay yX6_stay ∈ lw_g := xg (xin_5 (List.mem_of_getElem? (i := 116) rfl)) rfl
theorem wm_X11_248 : Cond.methodLink "RopeDance" (248 : Nat) ({ cls := "RopeDance$Table", name := "stay", desc := "(LRopeDance$Square;)I" } : Jvm.MethodName) ∈ lw_g := xg (xin_5 (List.mem_of_getElem? (i := 114) rfl)) rfl
theorem wk_X6_isAsFractions : Cond.code ({ cls := "RopeDance$Table", name := "isAsFractions", desc := "(LRopeDance$Table;)Z" } : Jvm.MethodName) prog_8_method_11_code (3 : Nat) (Option.some Jvm.ClassFile.FieldType.boolean) ∈ lw_g := xg (xin_5 (List.mem_of_getElem? (i := 130) rfl)) rfl
theorem MK_X6_isAsFractions : MK yX6_isAsFractions bX6_isAsFractions 3 (some .boolean) 1 := ⟨wn_X6, wk_X6_isAsFractions, ⟨by decide, by decide, by decide +kernel⟩, by decide⟩
theorem wi_X6_isAsFractions : Cond.instanceMethod ({ cls := "RopeDance$Table", name := "isAsFractions", desc := "(LRopeDance$Table;)Z" } : Jvm.MethodName) ∈ lw_g := xg (xin_5 (List.mem_of_getElem? (i := 128) rfl)) rfl
theorem we_X6_isAsFractions : Cond.selects "RopeDance$Table" yX6_isAsFractions yX6_isAsFractions ∈ lw_g := xg (xin_5 (List.mem_of_getElem? (i := 129) rfl)) rfl
theorem wm_X11_252 : Cond.methodLink "RopeDance" (252 : Nat) ({ cls := "RopeDance$Table", name := "isAsFractions", desc := "(LRopeDance$Table;)Z" } : Jvm.MethodName) ∈ lw_g := xg (xin_5 (List.mem_of_getElem? (i := 127) rfl)) rfl
theorem wf_X11_256 : Cond.fieldLink "RopeDance" (256 : Nat) "RopeDance$Text" "figures" "I" ∈ lw_g := xg (xin_1 (List.mem_of_getElem? (i := 187) rfl)) rfl
theorem wf_X11_259 : Cond.fieldLink "RopeDance" (259 : Nat) "RopeDance$Text" "figureRows" "[LRopeDance$Row;" ∈ lw_g := xg (xin_1 (List.mem_of_getElem? (i := 197) rfl)) rfl
theorem wk_X6_endsOf : Cond.code ({ cls := "RopeDance$Table", name := "endsOf", desc := "(I)I" } : Jvm.MethodName) prog_8_method_12_code (4 : Nat) (Option.some Jvm.ClassFile.FieldType.int) ∈ lw_g := xg (xin_5 (List.mem_of_getElem? (i := 143) rfl)) rfl
theorem MK_X6_endsOf : MK yX6_endsOf bX6_endsOf 4 (some .int) 1 := ⟨wn_X6, wk_X6_endsOf, ⟨by decide, by decide, by decide +kernel⟩, by decide⟩
theorem wi_X6_endsOf : Cond.instanceMethod ({ cls := "RopeDance$Table", name := "endsOf", desc := "(I)I" } : Jvm.MethodName) ∈ lw_g := xg (xin_5 (List.mem_of_getElem? (i := 141) rfl)) rfl
theorem we_X6_endsOf : Cond.selects "RopeDance$Table" yX6_endsOf yX6_endsOf ∈ lw_g := xg (xin_5 (List.mem_of_getElem? (i := 142) rfl)) rfl
theorem wm_X11_263 : Cond.methodLink "RopeDance" (263 : Nat) ({ cls := "RopeDance$Table", name := "endsOf", desc := "(I)I" } : Jvm.MethodName) ∈ lw_g := xg (xin_5 (List.mem_of_getElem? (i := 140) rfl)) rfl
theorem wf_X11_266 : Cond.fieldLink "RopeDance" (266 : Nat) "RopeDance$Text" "seed" "I" ∈ lw_g := xg (xin_1 (List.mem_of_getElem? (i := 191) rfl)) rfl
theorem wk_X11_tryMinutes : Cond.code ({ cls := "RopeDance", name := "tryMinutes", desc := "(LRopeDance$Square;III)V" } : Jvm.MethodName) prog_1_method_49_code (6 : Nat) (Option.none : Option Jvm.ClassFile.FieldType) ∈ lw_g := xg (xin_5 (List.mem_of_getElem? (i := 152) rfl)) rfl
theorem MK_X11_tryMinutes : MK yX11_tryMinutes bX11_tryMinutes 6 none 4 := ⟨wn_X11, wk_X11_tryMinutes, ⟨by decide, by decide, by decide +kernel⟩, by decide⟩
theorem wi_X11_tryMinutes : Cond.instanceMethod ({ cls := "RopeDance", name := "tryMinutes", desc := "(LRopeDance$Square;III)V" } : Jvm.MethodName) ∈ lw_g := xg (xin_5 (List.mem_of_getElem? (i := 151) rfl)) rfl
theorem we_X11_tryMinutes : Cond.selects "RopeDance" yX11_tryMinutes yX11_tryMinutes ∈ lw_g := xg (xip_3 (List.mem_of_getElem? (i := 1) rfl)) rfl
theorem wm_X11_269 : Cond.methodLink "RopeDance" (269 : Nat) ({ cls := "RopeDance", name := "tryMinutes", desc := "(LRopeDance$Square;III)V" } : Jvm.MethodName) ∈ lw_g := xg (xin_5 (List.mem_of_getElem? (i := 149) rfl)) rfl
theorem wf_X11_52 : Cond.fieldLink "RopeDance" (52 : Nat) "RopeDance" "told" "LRopeDance$Told;" ∈ lw_g := xg (xin_2 (List.mem_of_getElem? (i := 131) rfl)) rfl
theorem wk_X9_add : Cond.code ({ cls := "RopeDance$Told", name := "add", desc := "(IIZ)I" } : Jvm.MethodName) prog_11_method_2_code (4 : Nat) (Option.some Jvm.ClassFile.FieldType.int) ∈ lw_g := xg (xin_5 (List.mem_of_getElem? (i := 170) rfl)) rfl
theorem MK_X9_add : MK yX9_add bX9_add 4 (some .int) 3 := ⟨wn_X9, wk_X9_add, ⟨by decide, by decide, by decide +kernel⟩, by decide⟩
theorem wi_X9_add : Cond.instanceMethod ({ cls := "RopeDance$Told", name := "add", desc := "(IIZ)I" } : Jvm.MethodName) ∈ lw_g := xg (xin_5 (List.mem_of_getElem? (i := 168) rfl)) rfl
theorem we_X9_add : Cond.selects "RopeDance$Told" yX9_add yX9_add ∈ lw_g := xg (xin_5 (List.mem_of_getElem? (i := 169) rfl)) rfl
theorem wm_X11_273 : Cond.methodLink "RopeDance" (273 : Nat) ({ cls := "RopeDance$Told", name := "add", desc := "(IIZ)I" } : Jvm.MethodName) ∈ lw_g := xg (xin_5 (List.mem_of_getElem? (i := 167) rfl)) rfl
theorem wf_X11_277 : Cond.fieldLink "RopeDance" (277 : Nat) "RopeDance$Told" "length" "I" ∈ lw_g := xg (xin_2 (List.mem_of_getElem? (i := 91) rfl)) rfl
theorem wk_X9_canHear : Cond.code ({ cls := "RopeDance$Told", name := "canHear", desc := "(II)Z" } : Jvm.MethodName) prog_11_method_3_code (3 : Nat) (Option.some Jvm.ClassFile.FieldType.boolean) ∈ lw_g := xg (xin_5 (List.mem_of_getElem? (i := 182) rfl)) rfl
theorem MK_X9_canHear : MK yX9_canHear bX9_canHear 3 (some .boolean) 2 := ⟨wn_X9, wk_X9_canHear, ⟨by decide, by decide, by decide +kernel⟩, by decide⟩
theorem wi_X9_canHear : Cond.instanceMethod ({ cls := "RopeDance$Told", name := "canHear", desc := "(II)Z" } : Jvm.MethodName) ∈ lw_g := xg (xin_5 (List.mem_of_getElem? (i := 180) rfl)) rfl
theorem we_X9_canHear : Cond.selects "RopeDance$Told" yX9_canHear yX9_canHear ∈ lw_g := xg (xin_5 (List.mem_of_getElem? (i := 181) rfl)) rfl
theorem wm_X11_278 : Cond.methodLink "RopeDance" (278 : Nat) ({ cls := "RopeDance$Told", name := "canHear", desc := "(II)Z" } : Jvm.MethodName) ∈ lw_g := xg (xin_5 (List.mem_of_getElem? (i := 179) rfl)) rfl
theorem wk_X9_hear : Cond.code ({ cls := "RopeDance$Told", name := "hear", desc := "(LRopeDance$Text;LRopeDance$Square;II)V" } : Jvm.MethodName) prog_11_method_4_code (7 : Nat) (Option.none : Option Jvm.ClassFile.FieldType) ∈ lw_g := xg (xin_5 (List.mem_of_getElem? (i := 186) rfl)) rfl
theorem MK_X9_hear : MK yX9_hear bX9_hear 7 none 4 := ⟨wn_X9, wk_X9_hear, ⟨by decide, by decide, by decide +kernel⟩, by decide⟩
theorem wi_X9_hear : Cond.instanceMethod ({ cls := "RopeDance$Told", name := "hear", desc := "(LRopeDance$Text;LRopeDance$Square;II)V" } : Jvm.MethodName) ∈ lw_g := xg (xin_5 (List.mem_of_getElem? (i := 184) rfl)) rfl
theorem we_X9_hear : Cond.selects "RopeDance$Told" yX9_hear yX9_hear ∈ lw_g := xg (xin_5 (List.mem_of_getElem? (i := 185) rfl)) rfl
theorem wm_X11_281 : Cond.methodLink "RopeDance" (281 : Nat) ({ cls := "RopeDance$Told", name := "hear", desc := "(LRopeDance$Text;LRopeDance$Square;II)V" } : Jvm.MethodName) ∈ lw_g := xg (xin_5 (List.mem_of_getElem? (i := 183) rfl)) rfl
theorem wf_X11_288 : Cond.fieldLink "RopeDance" (288 : Nat) "RopeDance$Told" "first" "I" ∈ lw_g := xg (xin_2 (List.mem_of_getElem? (i := 95) rfl)) rfl
theorem wf_X11_285 : Cond.fieldLink "RopeDance" (285 : Nat) "RopeDance$Told" "fitting" "I" ∈ lw_g := xg (xin_2 (List.mem_of_getElem? (i := 93) rfl)) rfl
theorem wk_X9_whereToListen : Cond.code ({ cls := "RopeDance$Told", name := "whereToListen", desc := "(I)I" } : Jvm.MethodName) prog_11_method_8_code (6 : Nat) (Option.some Jvm.ClassFile.FieldType.int) ∈ lw_g := xg (xin_5 (List.mem_of_getElem? (i := 209) rfl)) rfl
theorem MK_X9_whereToListen : MK yX9_whereToListen bX9_whereToListen 6 (some .int) 1 := ⟨wn_X9, wk_X9_whereToListen, ⟨by decide, by decide, by decide +kernel⟩, by decide⟩
theorem wi_X9_whereToListen : Cond.instanceMethod ({ cls := "RopeDance$Told", name := "whereToListen", desc := "(I)I" } : Jvm.MethodName) ∈ lw_g := xg (xin_5 (List.mem_of_getElem? (i := 207) rfl)) rfl
theorem we_X9_whereToListen : Cond.selects "RopeDance$Told" yX9_whereToListen yX9_whereToListen ∈ lw_g := xg (xin_5 (List.mem_of_getElem? (i := 208) rfl)) rfl
theorem wm_X11_291 : Cond.methodLink "RopeDance" (291 : Nat) ({ cls := "RopeDance$Told", name := "whereToListen", desc := "(I)I" } : Jvm.MethodName) ∈ lw_g := xg (xin_5 (List.mem_of_getElem? (i := 206) rfl)) rfl
theorem wk_X1_keep : Cond.code ({ cls := "RopeDance$Memory", name := "keep", desc := "(ILRopeDance$Evening;)Z" } : Jvm.MethodName) prog_3_method_5_code (3 : Nat) (Option.some Jvm.ClassFile.FieldType.boolean) ∈ lw_g := xg (xin_5 (List.mem_of_getElem? (i := 218) rfl)) rfl
theorem MK_X1_keep : MK yX1_keep bX1_keep 3 (some .boolean) 2 := ⟨wn_X1, wk_X1_keep, ⟨by decide, by decide, by decide +kernel⟩, by decide⟩
theorem wi_X1_keep : Cond.instanceMethod ({ cls := "RopeDance$Memory", name := "keep", desc := "(ILRopeDance$Evening;)Z" } : Jvm.MethodName) ∈ lw_g := xg (xin_5 (List.mem_of_getElem? (i := 216) rfl)) rfl
theorem we_X1_keep : Cond.selects "RopeDance$Memory" yX1_keep yX1_keep ∈ lw_g := xg (xin_5 (List.mem_of_getElem? (i := 217) rfl)) rfl
theorem wm_X11_294 : Cond.methodLink "RopeDance" (294 : Nat) ({ cls := "RopeDance$Memory", name := "keep", desc := "(ILRopeDance$Evening;)Z" } : Jvm.MethodName) ∈ lw_g := xg (xin_5 (List.mem_of_getElem? (i := 215) rfl)) rfl
theorem wk_X1_goOn : Cond.code ({ cls := "RopeDance$Memory", name := "goOn", desc := "(ILRopeDance$Evening;)Z" } : Jvm.MethodName) prog_3_method_6_code (3 : Nat) (Option.some Jvm.ClassFile.FieldType.boolean) ∈ lw_g := xg (xin_5 (List.mem_of_getElem? (i := 226) rfl)) rfl
theorem MK_X1_goOn : MK yX1_goOn bX1_goOn 3 (some .boolean) 2 := ⟨wn_X1, wk_X1_goOn, ⟨by decide, by decide, by decide +kernel⟩, by decide⟩
theorem wi_X1_goOn : Cond.instanceMethod ({ cls := "RopeDance$Memory", name := "goOn", desc := "(ILRopeDance$Evening;)Z" } : Jvm.MethodName) ∈ lw_g := xg (xin_5 (List.mem_of_getElem? (i := 224) rfl)) rfl
theorem we_X1_goOn : Cond.selects "RopeDance$Memory" yX1_goOn yX1_goOn ∈ lw_g := xg (xin_5 (List.mem_of_getElem? (i := 225) rfl)) rfl
theorem wm_X11_298 : Cond.methodLink "RopeDance" (298 : Nat) ({ cls := "RopeDance$Memory", name := "goOn", desc := "(ILRopeDance$Evening;)Z" } : Jvm.MethodName) ∈ lw_g := xg (xin_5 (List.mem_of_getElem? (i := 223) rfl)) rfl
theorem wf_X11_301 : Cond.fieldLink "RopeDance" (301 : Nat) "RopeDance$Text" "squares" "I" ∈ lw_g := xg (xin_1 (List.mem_of_getElem? (i := 183) rfl)) rfl
theorem wf_X11_304 : Cond.fieldLink "RopeDance" (304 : Nat) "RopeDance$Evening" "paid" "I" ∈ lw_g := xg (xin_2 (List.mem_of_getElem? (i := 48) rfl)) rfl
theorem wk_X11_allCrossings : Cond.code ({ cls := "RopeDance", name := "allCrossings", desc := "()I" } : Jvm.MethodName) prog_1_method_50_code (3 : Nat) (Option.some Jvm.ClassFile.FieldType.int) ∈ lw_g := xg (xin_5 (List.mem_of_getElem? (i := 234) rfl)) rfl
theorem MK_X11_allCrossings : MK yX11_allCrossings bX11_allCrossings 3 (some .int) 0 := ⟨wn_X11, wk_X11_allCrossings, ⟨by decide, by decide, by decide +kernel⟩, by decide⟩
theorem wi_X11_allCrossings : Cond.instanceMethod ({ cls := "RopeDance", name := "allCrossings", desc := "()I" } : Jvm.MethodName) ∈ lw_g := xg (xin_5 (List.mem_of_getElem? (i := 233) rfl)) rfl
theorem we_X11_allCrossings : Cond.selects "RopeDance" yX11_allCrossings yX11_allCrossings ∈ lw_g := xg (xip_3 (List.mem_of_getElem? (i := 5) rfl)) rfl
theorem wm_X11_307 : Cond.methodLink "RopeDance" (307 : Nat) ({ cls := "RopeDance", name := "allCrossings", desc := "()I" } : Jvm.MethodName) ∈ lw_g := xg (xin_5 (List.mem_of_getElem? (i := 231) rfl)) rfl
theorem wk_X11_undoneSquares : Cond.code ({ cls := "RopeDance", name := "undoneSquares", desc := "()I" } : Jvm.MethodName) prog_1_method_51_code (3 : Nat) (Option.some Jvm.ClassFile.FieldType.int) ∈ lw_g := xg (xin_5 (List.mem_of_getElem? (i := 238) rfl)) rfl
theorem MK_X11_undoneSquares : MK yX11_undoneSquares bX11_undoneSquares 3 (some .int) 0 := ⟨wn_X11, wk_X11_undoneSquares, ⟨by decide, by decide, by decide +kernel⟩, by decide⟩
theorem wi_X11_undoneSquares : Cond.instanceMethod ({ cls := "RopeDance", name := "undoneSquares", desc := "()I" } : Jvm.MethodName) ∈ lw_g := xg (xin_5 (List.mem_of_getElem? (i := 237) rfl)) rfl
theorem we_X11_undoneSquares : Cond.selects "RopeDance" yX11_undoneSquares yX11_undoneSquares ∈ lw_g := xg (xip_3 (List.mem_of_getElem? (i := 6) rfl)) rfl
theorem wm_X11_310 : Cond.methodLink "RopeDance" (310 : Nat) ({ cls := "RopeDance", name := "undoneSquares", desc := "()I" } : Jvm.MethodName) ∈ lw_g := xg (xin_5 (List.mem_of_getElem? (i := 235) rfl)) rfl
theorem wk_X11_allTired : Cond.code ({ cls := "RopeDance", name := "allTired", desc := "()I" } : Jvm.MethodName) prog_1_method_52_code (3 : Nat) (Option.some Jvm.ClassFile.FieldType.int) ∈ lw_g := xg (xin_6 (List.mem_of_getElem? (i := 2) rfl)) rfl
theorem MK_X11_allTired : MK yX11_allTired bX11_allTired 3 (some .int) 0 := ⟨wn_X11, wk_X11_allTired, ⟨by decide, by decide, by decide +kernel⟩, by decide⟩
theorem wi_X11_allTired : Cond.instanceMethod ({ cls := "RopeDance", name := "allTired", desc := "()I" } : Jvm.MethodName) ∈ lw_g := xg (xin_6 (List.mem_of_getElem? (i := 1) rfl)) rfl
theorem we_X11_allTired : Cond.selects "RopeDance" yX11_allTired yX11_allTired ∈ lw_g := xg (xip_3 (List.mem_of_getElem? (i := 7) rfl)) rfl
theorem wm_X11_313 : Cond.methodLink "RopeDance" (313 : Nat) ({ cls := "RopeDance", name := "allTired", desc := "()I" } : Jvm.MethodName) ∈ lw_g := xg (xin_5 (List.mem_of_getElem? (i := 239) rfl)) rfl
theorem wk_X11_allCalled : Cond.code ({ cls := "RopeDance", name := "allCalled", desc := "()I" } : Jvm.MethodName) prog_1_method_53_code (3 : Nat) (Option.some Jvm.ClassFile.FieldType.int) ∈ lw_g := xg (xin_6 (List.mem_of_getElem? (i := 6) rfl)) rfl
theorem MK_X11_allCalled : MK yX11_allCalled bX11_allCalled 3 (some .int) 0 := ⟨wn_X11, wk_X11_allCalled, ⟨by decide, by decide, by decide +kernel⟩, by decide⟩
theorem wi_X11_allCalled : Cond.instanceMethod ({ cls := "RopeDance", name := "allCalled", desc := "()I" } : Jvm.MethodName) ∈ lw_g := xg (xin_6 (List.mem_of_getElem? (i := 5) rfl)) rfl
theorem we_X11_allCalled : Cond.selects "RopeDance" yX11_allCalled yX11_allCalled ∈ lw_g := xg (xip_3 (List.mem_of_getElem? (i := 8) rfl)) rfl
theorem wm_X11_316 : Cond.methodLink "RopeDance" (316 : Nat) ({ cls := "RopeDance", name := "allCalled", desc := "()I" } : Jvm.MethodName) ∈ lw_g := xg (xin_6 (List.mem_of_getElem? (i := 3) rfl)) rfl
theorem wf_X11_319 : Cond.fieldLink "RopeDance" (319 : Nat) "RopeDance$Memory" "length" "I" ∈ lw_g := xg (xin_2 (List.mem_of_getElem? (i := 65) rfl)) rfl
theorem wk_X1_heldSlots : Cond.code ({ cls := "RopeDance$Memory", name := "heldSlots", desc := "()I" } : Jvm.MethodName) prog_3_method_7_code (3 : Nat) (Option.some Jvm.ClassFile.FieldType.int) ∈ lw_g := xg (xin_6 (List.mem_of_getElem? (i := 10) rfl)) rfl
theorem MK_X1_heldSlots : MK yX1_heldSlots bX1_heldSlots 3 (some .int) 0 := ⟨wn_X1, wk_X1_heldSlots, ⟨by decide, by decide, by decide +kernel⟩, by decide⟩
theorem wi_X1_heldSlots : Cond.instanceMethod ({ cls := "RopeDance$Memory", name := "heldSlots", desc := "()I" } : Jvm.MethodName) ∈ lw_g := xg (xin_6 (List.mem_of_getElem? (i := 8) rfl)) rfl
theorem we_X1_heldSlots : Cond.selects "RopeDance$Memory" yX1_heldSlots yX1_heldSlots ∈ lw_g := xg (xin_6 (List.mem_of_getElem? (i := 9) rfl)) rfl
theorem wm_X11_320 : Cond.methodLink "RopeDance" (320 : Nat) ({ cls := "RopeDance$Memory", name := "heldSlots", desc := "()I" } : Jvm.MethodName) ∈ lw_g := xg (xin_6 (List.mem_of_getElem? (i := 7) rfl)) rfl
theorem wk_X11_squaresOfEnds : Cond.code ({ cls := "RopeDance", name := "squaresOfEnds", desc := "(I)I" } : Jvm.MethodName) prog_1_method_54_code (4 : Nat) (Option.some Jvm.ClassFile.FieldType.int) ∈ lw_g := xg (xin_6 (List.mem_of_getElem? (i := 14) rfl)) rfl
theorem MK_X11_squaresOfEnds : MK yX11_squaresOfEnds bX11_squaresOfEnds 4 (some .int) 1 := ⟨wn_X11, wk_X11_squaresOfEnds, ⟨by decide, by decide, by decide +kernel⟩, by decide⟩
theorem wi_X11_squaresOfEnds : Cond.instanceMethod ({ cls := "RopeDance", name := "squaresOfEnds", desc := "(I)I" } : Jvm.MethodName) ∈ lw_g := xg (xin_6 (List.mem_of_getElem? (i := 13) rfl)) rfl
theorem we_X11_squaresOfEnds : Cond.selects "RopeDance" yX11_squaresOfEnds yX11_squaresOfEnds ∈ lw_g := xg (xip_3 (List.mem_of_getElem? (i := 9) rfl)) rfl
theorem wm_X11_323 : Cond.methodLink "RopeDance" (323 : Nat) ({ cls := "RopeDance", name := "squaresOfEnds", desc := "(I)I" } : Jvm.MethodName) ∈ lw_g := xg (xin_6 (List.mem_of_getElem? (i := 11) rfl)) rfl
theorem wk_X0_begin : Cond.code ({ cls := "RopeDance$Evening", name := "begin", desc := "(LRopeDance$Text;)V" } : Jvm.MethodName) prog_2_method_2_code (3 : Nat) (Option.none : Option Jvm.ClassFile.FieldType) ∈ lw_g := xg (xin_3 (List.mem_of_getElem? (i := 237) rfl)) rfl
theorem MK_X0_begin : MK yX0_begin bX0_begin 3 none 1 := ⟨wn_X0, wk_X0_begin, ⟨by decide, by decide, by decide +kernel⟩, by decide⟩
theorem wi_X0_begin : Cond.instanceMethod ({ cls := "RopeDance$Evening", name := "begin", desc := "(LRopeDance$Text;)V" } : Jvm.MethodName) ∈ lw_g := xg (xin_3 (List.mem_of_getElem? (i := 235) rfl)) rfl
theorem we_X0_begin : Cond.selects "RopeDance$Evening" yX0_begin yX0_begin ∈ lw_g := xg (xin_3 (List.mem_of_getElem? (i := 236) rfl)) rfl
theorem wm_X11_326 : Cond.methodLink "RopeDance" (326 : Nat) ({ cls := "RopeDance$Evening", name := "begin", desc := "(LRopeDance$Text;)V" } : Jvm.MethodName) ∈ lw_g := xg (xin_3 (List.mem_of_getElem? (i := 234) rfl)) rfl
theorem wk_X1_clear : Cond.code ({ cls := "RopeDance$Memory", name := "clear", desc := "()V" } : Jvm.MethodName) prog_3_method_2_code (2 : Nat) (Option.none : Option Jvm.ClassFile.FieldType) ∈ lw_g := xg (xin_4 (List.mem_of_getElem? (i := 3) rfl)) rfl
theorem MK_X1_clear : MK yX1_clear bX1_clear 2 none 0 := ⟨wn_X1, wk_X1_clear, ⟨by decide, by decide, by decide +kernel⟩, by decide⟩
theorem wi_X1_clear : Cond.instanceMethod ({ cls := "RopeDance$Memory", name := "clear", desc := "()V" } : Jvm.MethodName) ∈ lw_g := xg (xin_4 (List.mem_of_getElem? (i := 1) rfl)) rfl
theorem we_X1_clear : Cond.selects "RopeDance$Memory" yX1_clear yX1_clear ∈ lw_g := xg (xin_4 (List.mem_of_getElem? (i := 2) rfl)) rfl
theorem wm_X11_329 : Cond.methodLink "RopeDance" (329 : Nat) ({ cls := "RopeDance$Memory", name := "clear", desc := "()V" } : Jvm.MethodName) ∈ lw_g := xg (xin_4 (List.mem_of_getElem? (i := 0) rfl)) rfl
theorem wf_X11_330 : Cond.fieldLink "RopeDance" (330 : Nat) "RopeDance" "search" "LRopeDance$Search;" ∈ lw_g := xg (xin_2 (List.mem_of_getElem? (i := 135) rfl)) rfl
theorem wk_X4_startAnew : Cond.code ({ cls := "RopeDance$Search", name := "startAnew", desc := "()V" } : Jvm.MethodName) prog_6_method_3_code (1 : Nat) (Option.none : Option Jvm.ClassFile.FieldType) ∈ lw_g := xg (xin_4 (List.mem_of_getElem? (i := 7) rfl)) rfl
theorem MK_X4_startAnew : MK yX4_startAnew bX4_startAnew 1 none 0 := ⟨wn_X4, wk_X4_startAnew, ⟨by decide, by decide, by decide +kernel⟩, by decide⟩
theorem wi_X4_startAnew : Cond.instanceMethod ({ cls := "RopeDance$Search", name := "startAnew", desc := "()V" } : Jvm.MethodName) ∈ lw_g := xg (xin_4 (List.mem_of_getElem? (i := 5) rfl)) rfl
theorem we_X4_startAnew : Cond.selects "RopeDance$Search" yX4_startAnew yX4_startAnew ∈ lw_g := xg (xin_4 (List.mem_of_getElem? (i := 6) rfl)) rfl
theorem wm_X11_334 : Cond.methodLink "RopeDance" (334 : Nat) ({ cls := "RopeDance$Search", name := "startAnew", desc := "()V" } : Jvm.MethodName) ∈ lw_g := xg (xin_4 (List.mem_of_getElem? (i := 4) rfl)) rfl
theorem wf_X11_337 : Cond.fieldLink "RopeDance" (337 : Nat) "RopeDance$Evening" "squares" "[LRopeDance$Square;" ∈ lw_g := xg (xin_2 (List.mem_of_getElem? (i := 44) rfl)) rfl
theorem wf_X11_340 : Cond.fieldLink "RopeDance" (340 : Nat) "RopeDance" "unwinding" "LRopeDance$Unwinding;" ∈ lw_g := xg (xin_2 (List.mem_of_getElem? (i := 136) rfl)) rfl
theorem wk_X4_spread : Cond.code ({ cls := "RopeDance$Search", name := "spread", desc := "(LRopeDance$Text;LRopeDance$Square;)V" } : Jvm.MethodName) prog_6_method_4_code (7 : Nat) (Option.none : Option Jvm.ClassFile.FieldType) ∈ lw_g := xg (xin_5 (List.mem_of_getElem? (i := 11) rfl)) rfl
theorem MK_X4_spread : MK yX4_spread bX4_spread 7 none 2 := ⟨wn_X4, wk_X4_spread, ⟨by decide, by decide, by decide +kernel⟩, by decide⟩
theorem wi_X4_spread : Cond.instanceMethod ({ cls := "RopeDance$Search", name := "spread", desc := "(LRopeDance$Text;LRopeDance$Square;)V" } : Jvm.MethodName) ∈ lw_g := xg (xin_5 (List.mem_of_getElem? (i := 9) rfl)) rfl
theorem we_X4_spread : Cond.selects "RopeDance$Search" yX4_spread yX4_spread ∈ lw_g := xg (xin_5 (List.mem_of_getElem? (i := 10) rfl)) rfl
theorem wm_X11_345 : Cond.methodLink "RopeDance" (345 : Nat) ({ cls := "RopeDance$Search", name := "spread", desc := "(LRopeDance$Text;LRopeDance$Square;)V" } : Jvm.MethodName) ∈ lw_g := xg (xin_5 (List.mem_of_getElem? (i := 8) rfl)) rfl
theorem wm_X11_349 : Cond.methodLink "RopeDance" (349 : Nat) ({ cls := "RopeDance$Search", name := "number", desc := "(II)I" } : Jvm.MethodName) ∈ lw_g := xg (xin_4 (List.mem_of_getElem? (i := 215) rfl)) rfl
theorem wk_X4_lengthTo : Cond.code ({ cls := "RopeDance$Search", name := "lengthTo", desc := "(I)I" } : Jvm.MethodName) prog_6_method_7_code (4 : Nat) (Option.some Jvm.ClassFile.FieldType.int) ∈ lw_g := xg (xin_5 (List.mem_of_getElem? (i := 25) rfl)) rfl
theorem MK_X4_lengthTo : MK yX4_lengthTo bX4_lengthTo 4 (some .int) 1 := ⟨wn_X4, wk_X4_lengthTo, ⟨by decide, by decide, by decide +kernel⟩, by decide⟩
theorem wi_X4_lengthTo : Cond.instanceMethod ({ cls := "RopeDance$Search", name := "lengthTo", desc := "(I)I" } : Jvm.MethodName) ∈ lw_g := xg (xin_5 (List.mem_of_getElem? (i := 23) rfl)) rfl
theorem we_X4_lengthTo : Cond.selects "RopeDance$Search" yX4_lengthTo yX4_lengthTo ∈ lw_g := xg (xin_5 (List.mem_of_getElem? (i := 24) rfl)) rfl
theorem wm_X11_352 : Cond.methodLink "RopeDance" (352 : Nat) ({ cls := "RopeDance$Search", name := "lengthTo", desc := "(I)I" } : Jvm.MethodName) ∈ lw_g := xg (xin_5 (List.mem_of_getElem? (i := 22) rfl)) rfl
theorem wk_X4_figureBeforeLast : Cond.code ({ cls := "RopeDance$Search", name := "figureBeforeLast", desc := "(II)I" } : Jvm.MethodName) prog_6_method_8_code (5 : Nat) (Option.some Jvm.ClassFile.FieldType.int) ∈ lw_g := xg (xin_5 (List.mem_of_getElem? (i := 29) rfl)) rfl
theorem MK_X4_figureBeforeLast : MK yX4_figureBeforeLast bX4_figureBeforeLast 5 (some .int) 2 := ⟨wn_X4, wk_X4_figureBeforeLast, ⟨by decide, by decide, by decide +kernel⟩, by decide⟩
theorem wi_X4_figureBeforeLast : Cond.instanceMethod ({ cls := "RopeDance$Search", name := "figureBeforeLast", desc := "(II)I" } : Jvm.MethodName) ∈ lw_g := xg (xin_5 (List.mem_of_getElem? (i := 27) rfl)) rfl
theorem we_X4_figureBeforeLast : Cond.selects "RopeDance$Search" yX4_figureBeforeLast yX4_figureBeforeLast ∈ lw_g := xg (xin_5 (List.mem_of_getElem? (i := 28) rfl)) rfl
theorem wm_X11_355 : Cond.methodLink "RopeDance" (355 : Nat) ({ cls := "RopeDance$Search", name := "figureBeforeLast", desc := "(II)I" } : Jvm.MethodName) ∈ lw_g := xg (xin_5 (List.mem_of_getElem? (i := 26) rfl)) rfl
theorem wc_X11_358 : Cond.constant "RopeDance" (358 : Nat) (1000000 : Int32) ∈ lw_g := xg (xin_5 (List.mem_of_getElem? (i := 91) rfl)) rfl
theorem wk_X6_isNothingBy : Cond.code ({ cls := "RopeDance$Table", name := "isNothingBy", desc := "(I)Z" } : Jvm.MethodName) prog_8_method_10_code (2 : Nat) (Option.some Jvm.ClassFile.FieldType.boolean) ∈ lw_g := xg (xin_5 (List.mem_of_getElem? (i := 104) rfl)) rfl
theorem MK_X6_isNothingBy : MK yX6_isNothingBy bX6_isNothingBy 2 (some .boolean) 1 := ⟨wn_X6, wk_X6_isNothingBy, ⟨by decide, by decide, by decide +kernel⟩, by decide⟩
theorem wi_X6_isNothingBy : Cond.instanceMethod ({ cls := "RopeDance$Table", name := "isNothingBy", desc := "(I)Z" } : Jvm.MethodName) ∈ lw_g := xg (xin_5 (List.mem_of_getElem? (i := 102) rfl)) rfl
theorem we_X6_isNothingBy : Cond.selects "RopeDance$Table" yX6_isNothingBy yX6_isNothingBy ∈ lw_g := xg (xin_5 (List.mem_of_getElem? (i := 103) rfl)) rfl
theorem wm_X11_359 : Cond.methodLink "RopeDance" (359 : Nat) ({ cls := "RopeDance$Table", name := "isNothingBy", desc := "(I)Z" } : Jvm.MethodName) ∈ lw_g := xg (xin_5 (List.mem_of_getElem? (i := 101) rfl)) rfl
theorem wk_X5_take : Cond.code ({ cls := "RopeDance$Square", name := "take", desc := "(LRopeDance$Square;)V" } : Jvm.MethodName) prog_7_method_4_code (2 : Nat) (Option.none : Option Jvm.ClassFile.FieldType) ∈ lw_g := xg (xin_5 (List.mem_of_getElem? (i := 156) rfl)) rfl
theorem MK_X5_take : MK yX5_take bX5_take 2 none 1 := ⟨wn_X5, wk_X5_take, ⟨by decide, by decide, by decide +kernel⟩, by decide⟩
theorem wi_X5_take : Cond.instanceMethod ({ cls := "RopeDance$Square", name := "take", desc := "(LRopeDance$Square;)V" } : Jvm.MethodName) ∈ lw_g := xg (xin_5 (List.mem_of_getElem? (i := 154) rfl)) rfl
theorem we_X5_take : Cond.selects "RopeDance$Square" yX5_take yX5_take ∈ lw_g := xg (xin_5 (List.mem_of_getElem? (i := 155) rfl)) rfl
theorem wm_X11_362 : Cond.methodLink "RopeDance" (362 : Nat) ({ cls := "RopeDance$Square", name := "take", desc := "(LRopeDance$Square;)V" } : Jvm.MethodName) ∈ lw_g := xg (xin_5 (List.mem_of_getElem? (i := 153) rfl)) rfl
theorem wm_X11_365 : Cond.methodLink "RopeDance" (365 : Nat) ({ cls := "RopeDance$Text", name := "passMinute", desc := "(LRopeDance$Square;III)V" } : Jvm.MethodName) ∈ lw_g := xg (xin_5 (List.mem_of_getElem? (i := 158) rfl)) rfl
theorem wf_X12_169 : Cond.fieldLink "RopeDanceModel" (169 : Nat) "RopeDanceModel" "taped" "I" ∈ lw_g := xg (xin_6 (List.mem_of_getElem? (i := 77) rfl)) rfl
theorem wn_X12 : Cond.initialized "RopeDanceModel" ∈ lw_g := xg (xin_1 (List.mem_of_getElem? (i := 11) rfl)) rfl
theorem wk_X12_lays : Cond.code ({ cls := "RopeDanceModel", name := "lays", desc := "(I)V" } : Jvm.MethodName) prog_14_method_4_code (3 : Nat) (Option.none : Option Jvm.ClassFile.FieldType) ∈ lw_g := xg (xin_7 (List.mem_of_getElem? (i := 68) rfl)) rfl
theorem MK_X12_lays : MK yX12_lays bX12_lays 3 none 1 := ⟨wn_X12, wk_X12_lays, ⟨by decide, by decide, by decide +kernel⟩, by decide⟩
theorem wi_X12_lays : Cond.instanceMethod ({ cls := "RopeDanceModel", name := "lays", desc := "(I)V" } : Jvm.MethodName) ∈ lw_g := xg (xin_7 (List.mem_of_getElem? (i := 67) rfl)) rfl
theorem we_X12_lays : Cond.selects "RopeDanceModel" yX12_lays yX12_lays ∈ lw_g := xg (xip_4 (List.mem_of_getElem? (i := 0) rfl)) rfl
theorem wm_X12_172 : Cond.methodLink "RopeDanceModel" (172 : Nat) ({ cls := "RopeDanceModel", name := "lays", desc := "(I)V" } : Jvm.MethodName) ∈ lw_g := xg (xin_7 (List.mem_of_getElem? (i := 65) rfl)) rfl
theorem wf_X12_13 : Cond.fieldLink "RopeDanceModel" (13 : Nat) "RopeDanceModel" "tape" "[B" ∈ lw_g := xg (xin_6 (List.mem_of_getElem? (i := 76) rfl)) rfl
theorem wf_X12_175 : Cond.fieldLink "RopeDanceModel" (175 : Nat) "RopeDanceModel" "size" "I" ∈ lw_g := xg (xin_6 (List.mem_of_getElem? (i := 79) rfl)) rfl
theorem wf_X12_17 : Cond.fieldLink "RopeDanceModel" (17 : Nat) "RopeDanceModel" "text" "[B" ∈ lw_g := xg (xin_6 (List.mem_of_getElem? (i := 78) rfl)) rfl
theorem wc_X12_178 : Cond.constantLong "RopeDanceModel" (178 : Nat) (27 : Int64) ∈ lw_g := xg (xin_6 (List.mem_of_getElem? (i := 31) rfl)) rfl
theorem wk_X12_appends : Cond.code ({ cls := "RopeDanceModel", name := "appends", desc := "(JI)J" } : Jvm.MethodName) prog_14_method_9_code (3 : Nat) (Option.some Jvm.ClassFile.FieldType.long) ∈ lw_g := xg (xin_6 (List.mem_of_getElem? (i := 30) rfl)) rfl
theorem MK_X12_appends : MK yX12_appends bX12_appends 3 (some .long) 2 := ⟨wn_X12, wk_X12_appends, ⟨by decide, by decide, by decide +kernel⟩, by decide⟩
theorem ws_X12_appends : Cond.static ({ cls := "RopeDanceModel", name := "appends", desc := "(JI)J" } : Jvm.MethodName) ∈ lw_g := xg (xin_6 (List.mem_of_getElem? (i := 29) rfl)) rfl
theorem wm_X12_180 : Cond.methodLink "RopeDanceModel" (180 : Nat) ({ cls := "RopeDanceModel", name := "appends", desc := "(JI)J" } : Jvm.MethodName) ∈ lw_g := xg (xin_6 (List.mem_of_getElem? (i := 28) rfl)) rfl
theorem wf_X12_20 : Cond.fieldLink "RopeDanceModel" (20 : Nat) "RopeDanceModel" "tKind" "[I" ∈ lw_g := xg (xin_6 (List.mem_of_getElem? (i := 80) rfl)) rfl
theorem wf_X12_184 : Cond.fieldLink "RopeDanceModel" (184 : Nat) "RopeDanceModel" "tokens" "I" ∈ lw_g := xg (xin_6 (List.mem_of_getElem? (i := 85) rfl)) rfl
theorem wf_X12_24 : Cond.fieldLink "RopeDanceModel" (24 : Nat) "RopeDanceModel" "tPlace" "[I" ∈ lw_g := xg (xin_6 (List.mem_of_getElem? (i := 81) rfl)) rfl
theorem wf_X12_27 : Cond.fieldLink "RopeDanceModel" (27 : Nat) "RopeDanceModel" "tValue" "[I" ∈ lw_g := xg (xin_6 (List.mem_of_getElem? (i := 82) rfl)) rfl
theorem wf_X12_30 : Cond.fieldLink "RopeDanceModel" (30 : Nat) "RopeDanceModel" "tName" "[J" ∈ lw_g := xg (xin_6 (List.mem_of_getElem? (i := 83) rfl)) rfl
theorem wk_X12_byteAt : Cond.code ({ cls := "RopeDanceModel", name := "byteAt", desc := "(I)I" } : Jvm.MethodName) prog_14_method_6_code (2 : Nat) (Option.some Jvm.ClassFile.FieldType.int) ∈ lw_g := xg (xin_7 (List.mem_of_getElem? (i := 84) rfl)) rfl
theorem MK_X12_byteAt : MK yX12_byteAt bX12_byteAt 2 (some .int) 1 := ⟨wn_X12, wk_X12_byteAt, ⟨by decide, by decide, by decide +kernel⟩, by decide⟩
theorem wi_X12_byteAt : Cond.instanceMethod ({ cls := "RopeDanceModel", name := "byteAt", desc := "(I)I" } : Jvm.MethodName) ∈ lw_g := xg (xin_7 (List.mem_of_getElem? (i := 83) rfl)) rfl
theorem we_X12_byteAt : Cond.selects "RopeDanceModel" yX12_byteAt yX12_byteAt ∈ lw_g := xg (xip_4 (List.mem_of_getElem? (i := 2) rfl)) rfl
theorem wm_X12_187 : Cond.methodLink "RopeDanceModel" (187 : Nat) ({ cls := "RopeDanceModel", name := "byteAt", desc := "(I)I" } : Jvm.MethodName) ∈ lw_g := xg (xin_7 (List.mem_of_getElem? (i := 81) rfl)) rfl
theorem wk_X12_isLetter : Cond.code ({ cls := "RopeDanceModel", name := "isLetter", desc := "(I)Z" } : Jvm.MethodName) prog_14_method_8_code (1 : Nat) (Option.some Jvm.ClassFile.FieldType.boolean) ∈ lw_g := xg (xin_7 (List.mem_of_getElem? (i := 91) rfl)) rfl
theorem MK_X12_isLetter : MK yX12_isLetter bX12_isLetter 1 (some .boolean) 1 := ⟨wn_X12, wk_X12_isLetter, ⟨by decide, by decide, by decide +kernel⟩, by decide⟩
theorem ws_X12_isLetter : Cond.static ({ cls := "RopeDanceModel", name := "isLetter", desc := "(I)Z" } : Jvm.MethodName) ∈ lw_g := xg (xin_7 (List.mem_of_getElem? (i := 90) rfl)) rfl
theorem wm_X12_195 : Cond.methodLink "RopeDanceModel" (195 : Nat) ({ cls := "RopeDanceModel", name := "isLetter", desc := "(I)Z" } : Jvm.MethodName) ∈ lw_g := xg (xin_7 (List.mem_of_getElem? (i := 89) rfl)) rfl
theorem wk_X12_isDigit : Cond.code ({ cls := "RopeDanceModel", name := "isDigit", desc := "(I)Z" } : Jvm.MethodName) prog_14_method_7_code (1 : Nat) (Option.some Jvm.ClassFile.FieldType.boolean) ∈ lw_g := xg (xin_7 (List.mem_of_getElem? (i := 94) rfl)) rfl
theorem MK_X12_isDigit : MK yX12_isDigit bX12_isDigit 1 (some .boolean) 1 := ⟨wn_X12, wk_X12_isDigit, ⟨by decide, by decide, by decide +kernel⟩, by decide⟩
theorem ws_X12_isDigit : Cond.static ({ cls := "RopeDanceModel", name := "isDigit", desc := "(I)Z" } : Jvm.MethodName) ∈ lw_g := xg (xin_7 (List.mem_of_getElem? (i := 93) rfl)) rfl
theorem wm_X12_199 : Cond.methodLink "RopeDanceModel" (199 : Nat) ({ cls := "RopeDanceModel", name := "isDigit", desc := "(I)Z" } : Jvm.MethodName) ∈ lw_g := xg (xin_7 (List.mem_of_getElem? (i := 92) rfl)) rfl
theorem wk_X12_sign : Cond.code ({ cls := "RopeDanceModel", name := "sign", desc := "(III)I" } : Jvm.MethodName) prog_14_method_13_code (5 : Nat) (Option.some Jvm.ClassFile.FieldType.int) ∈ lw_g := xg (xin_7 (List.mem_of_getElem? (i := 98) rfl)) rfl
theorem MK_X12_sign : MK yX12_sign bX12_sign 5 (some .int) 3 := ⟨wn_X12, wk_X12_sign, ⟨by decide, by decide, by decide +kernel⟩, by decide⟩
theorem wi_X12_sign : Cond.instanceMethod ({ cls := "RopeDanceModel", name := "sign", desc := "(III)I" } : Jvm.MethodName) ∈ lw_g := xg (xin_7 (List.mem_of_getElem? (i := 97) rfl)) rfl
theorem we_X12_sign : Cond.selects "RopeDanceModel" yX12_sign yX12_sign ∈ lw_g := xg (xip_4 (List.mem_of_getElem? (i := 4) rfl)) rfl
theorem wm_X12_202 : Cond.methodLink "RopeDanceModel" (202 : Nat) ({ cls := "RopeDanceModel", name := "sign", desc := "(III)I" } : Jvm.MethodName) ∈ lw_g := xg (xin_7 (List.mem_of_getElem? (i := 95) rfl)) rfl
theorem wk_X12_token : Cond.code ({ cls := "RopeDanceModel", name := "token", desc := "(IIIJ)V" } : Jvm.MethodName) prog_14_method_11_code (6 : Nat) (Option.none : Option Jvm.ClassFile.FieldType) ∈ lw_g := xg (xin_7 (List.mem_of_getElem? (i := 88) rfl)) rfl
theorem MK_X12_token : MK yX12_token bX12_token 6 none 4 := ⟨wn_X12, wk_X12_token, ⟨by decide, by decide, by decide +kernel⟩, by decide⟩
theorem wi_X12_token : Cond.instanceMethod ({ cls := "RopeDanceModel", name := "token", desc := "(IIIJ)V" } : Jvm.MethodName) ∈ lw_g := xg (xin_7 (List.mem_of_getElem? (i := 87) rfl)) rfl
theorem we_X12_token : Cond.selects "RopeDanceModel" yX12_token yX12_token ∈ lw_g := xg (xip_4 (List.mem_of_getElem? (i := 3) rfl)) rfl
theorem wm_X12_191 : Cond.methodLink "RopeDanceModel" (191 : Nat) ({ cls := "RopeDanceModel", name := "token", desc := "(IIIJ)V" } : Jvm.MethodName) ∈ lw_g := xg (xin_7 (List.mem_of_getElem? (i := 85) rfl)) rfl
theorem wf_X12_34 : Cond.fieldLink "RopeDanceModel" (34 : Nat) "RopeDanceModel" "keys" "[J" ∈ lw_g := xg (xin_6 (List.mem_of_getElem? (i := 84) rfl)) rfl
theorem wf_X12_206 : Cond.fieldLink "RopeDanceModel" (206 : Nat) "RopeDanceModel" "fault" "I" ∈ lw_g := xg (xin_6 (List.mem_of_getElem? (i := 88) rfl)) rfl
theorem wf_X12_209 : Cond.fieldLink "RopeDanceModel" (209 : Nat) "RopeDanceModel" "t" "I" ∈ lw_g := xg (xin_6 (List.mem_of_getElem? (i := 86) rfl)) rfl
theorem wf_X12_212 : Cond.fieldLink "RopeDanceModel" (212 : Nat) "RopeDanceModel" "faultPlace" "I" ∈ lw_g := xg (xin_6 (List.mem_of_getElem? (i := 89) rfl)) rfl
theorem wf_X12_215 : Cond.fieldLink "RopeDanceModel" (215 : Nat) "RopeDanceModel" "worst" "I" ∈ lw_g := xg (xin_6 (List.mem_of_getElem? (i := 90) rfl)) rfl
theorem wf_X12_218 : Cond.fieldLink "RopeDanceModel" (218 : Nat) "RopeDanceModel" "worstPlace" "I" ∈ lw_g := xg (xin_6 (List.mem_of_getElem? (i := 91) rfl)) rfl
theorem wk_X12_fail : Cond.code ({ cls := "RopeDanceModel", name := "fail", desc := "(I)V" } : Jvm.MethodName) prog_14_method_15_code (2 : Nat) (Option.none : Option Jvm.ClassFile.FieldType) ∈ lw_g := xg (xin_7 (List.mem_of_getElem? (i := 114) rfl)) rfl
theorem MK_X12_fail : MK yX12_fail bX12_fail 2 none 1 := ⟨wn_X12, wk_X12_fail, ⟨by decide, by decide, by decide +kernel⟩, by decide⟩
theorem wi_X12_fail : Cond.instanceMethod ({ cls := "RopeDanceModel", name := "fail", desc := "(I)V" } : Jvm.MethodName) ∈ lw_g := xg (xin_7 (List.mem_of_getElem? (i := 113) rfl)) rfl
theorem we_X12_fail : Cond.selects "RopeDanceModel" yX12_fail yX12_fail ∈ lw_g := xg (xip_4 (List.mem_of_getElem? (i := 8) rfl)) rfl
theorem wm_X12_221 : Cond.methodLink "RopeDanceModel" (221 : Nat) ({ cls := "RopeDanceModel", name := "fail", desc := "(I)V" } : Jvm.MethodName) ∈ lw_g := xg (xin_7 (List.mem_of_getElem? (i := 111) rfl)) rfl
theorem wk_X12_is : Cond.code ({ cls := "RopeDanceModel", name := "is", desc := "(I)Z" } : Jvm.MethodName) prog_14_method_14_code (2 : Nat) (Option.some Jvm.ClassFile.FieldType.boolean) ∈ lw_g := xg (xin_7 (List.mem_of_getElem? (i := 102) rfl)) rfl
theorem MK_X12_is : MK yX12_is bX12_is 2 (some .boolean) 1 := ⟨wn_X12, wk_X12_is, ⟨by decide, by decide, by decide +kernel⟩, by decide⟩
theorem wi_X12_is : Cond.instanceMethod ({ cls := "RopeDanceModel", name := "is", desc := "(I)Z" } : Jvm.MethodName) ∈ lw_g := xg (xin_7 (List.mem_of_getElem? (i := 101) rfl)) rfl
theorem we_X12_is : Cond.selects "RopeDanceModel" yX12_is yX12_is ∈ lw_g := xg (xip_4 (List.mem_of_getElem? (i := 5) rfl)) rfl
theorem wm_X12_224 : Cond.methodLink "RopeDanceModel" (224 : Nat) ({ cls := "RopeDanceModel", name := "is", desc := "(I)Z" } : Jvm.MethodName) ∈ lw_g := xg (xin_7 (List.mem_of_getElem? (i := 99) rfl)) rfl
theorem wk_X12_goesOn : Cond.code ({ cls := "RopeDanceModel", name := "goesOn", desc := "()V" } : Jvm.MethodName) prog_14_method_17_code (1 : Nat) (Option.none : Option Jvm.ClassFile.FieldType) ∈ lw_g := xg (xin_7 (List.mem_of_getElem? (i := 118) rfl)) rfl
theorem MK_X12_goesOn : MK yX12_goesOn bX12_goesOn 1 none 0 := ⟨wn_X12, wk_X12_goesOn, ⟨by decide, by decide, by decide +kernel⟩, by decide⟩
theorem wi_X12_goesOn : Cond.instanceMethod ({ cls := "RopeDanceModel", name := "goesOn", desc := "()V" } : Jvm.MethodName) ∈ lw_g := xg (xin_7 (List.mem_of_getElem? (i := 117) rfl)) rfl
theorem we_X12_goesOn : Cond.selects "RopeDanceModel" yX12_goesOn yX12_goesOn ∈ lw_g := xg (xip_4 (List.mem_of_getElem? (i := 9) rfl)) rfl
theorem wm_X12_227 : Cond.methodLink "RopeDanceModel" (227 : Nat) ({ cls := "RopeDanceModel", name := "goesOn", desc := "()V" } : Jvm.MethodName) ∈ lw_g := xg (xin_7 (List.mem_of_getElem? (i := 115) rfl)) rfl
theorem wf_X12_43 : Cond.fieldLink "RopeDanceModel" (43 : Nat) "RopeDanceModel" "squares" "[I" ∈ lw_g := xg (xin_6 (List.mem_of_getElem? (i := 97) rfl)) rfl
theorem wf_X12_46 : Cond.fieldLink "RopeDanceModel" (46 : Nat) "RopeDanceModel" "figures" "[I" ∈ lw_g := xg (xin_6 (List.mem_of_getElem? (i := 98) rfl)) rfl
theorem wf_X12_61 : Cond.fieldLink "RopeDanceModel" (61 : Nat) "RopeDanceModel" "seed" "[I" ∈ lw_g := xg (xin_6 (List.mem_of_getElem? (i := 103) rfl)) rfl
theorem wf_X12_64 : Cond.fieldLink "RopeDanceModel" (64 : Nat) "RopeDanceModel" "lawFirst" "[I" ∈ lw_g := xg (xin_6 (List.mem_of_getElem? (i := 104) rfl)) rfl
theorem wf_X12_67 : Cond.fieldLink "RopeDanceModel" (67 : Nat) "RopeDanceModel" "lawLast" "[I" ∈ lw_g := xg (xin_6 (List.mem_of_getElem? (i := 105) rfl)) rfl
theorem wk_X12_cut : Cond.code ({ cls := "RopeDanceModel", name := "cut", desc := "()V" } : Jvm.MethodName) prog_14_method_12_code (8 : Nat) (Option.none : Option Jvm.ClassFile.FieldType) ∈ lw_g := xg (xin_7 (List.mem_of_getElem? (i := 80) rfl)) rfl
theorem MK_X12_cut : MK yX12_cut bX12_cut 8 none 0 := ⟨wn_X12, wk_X12_cut, ⟨by decide, by decide, by decide +kernel⟩, by decide⟩
theorem wi_X12_cut : Cond.instanceMethod ({ cls := "RopeDanceModel", name := "cut", desc := "()V" } : Jvm.MethodName) ∈ lw_g := xg (xin_7 (List.mem_of_getElem? (i := 79) rfl)) rfl
theorem we_X12_cut : Cond.selects "RopeDanceModel" yX12_cut yX12_cut ∈ lw_g := xg (xip_4 (List.mem_of_getElem? (i := 1) rfl)) rfl
theorem wm_X12_230 : Cond.methodLink "RopeDanceModel" (230 : Nat) ({ cls := "RopeDanceModel", name := "cut", desc := "()V" } : Jvm.MethodName) ∈ lw_g := xg (xin_7 (List.mem_of_getElem? (i := 77) rfl)) rfl
theorem wf_X12_233 : Cond.fieldLink "RopeDanceModel" (233 : Nat) "RopeDanceModel" "open" "I" ∈ lw_g := xg (xin_6 (List.mem_of_getElem? (i := 87) rfl)) rfl
theorem wf_X12_236 : Cond.fieldLink "RopeDanceModel" (236 : Nat) "RopeDanceModel" "live" "I" ∈ lw_g := xg (xin_6 (List.mem_of_getElem? (i := 93) rfl)) rfl
theorem wf_X12_239 : Cond.fieldLink "RopeDanceModel" (239 : Nat) "RopeDanceModel" "side" "I" ∈ lw_g := xg (xin_6 (List.mem_of_getElem? (i := 94) rfl)) rfl
theorem wf_X12_242 : Cond.fieldLink "RopeDanceModel" (242 : Nat) "RopeDanceModel" "names" "I" ∈ lw_g := xg (xin_6 (List.mem_of_getElem? (i := 95) rfl)) rfl
theorem wk_X12_plain : Cond.code ({ cls := "RopeDanceModel", name := "plain", desc := "(I)V" } : Jvm.MethodName) prog_14_method_19_code (3 : Nat) (Option.none : Option Jvm.ClassFile.FieldType) ∈ lw_g := xg (xin_6 (List.mem_of_getElem? (i := 24) rfl)) rfl
theorem MK_X12_plain : MK yX12_plain bX12_plain 3 none 1 := ⟨wn_X12, wk_X12_plain, ⟨by decide, by decide, by decide +kernel⟩, by decide⟩
theorem wi_X12_plain : Cond.instanceMethod ({ cls := "RopeDanceModel", name := "plain", desc := "(I)V" } : Jvm.MethodName) ∈ lw_g := xg (xin_6 (List.mem_of_getElem? (i := 23) rfl)) rfl
theorem we_X12_plain : Cond.selects "RopeDanceModel" yX12_plain yX12_plain ∈ lw_g := xg (xip_3 (List.mem_of_getElem? (i := 10) rfl)) rfl
theorem wm_X12_152 : Cond.methodLink "RopeDanceModel" (152 : Nat) ({ cls := "RopeDanceModel", name := "plain", desc := "(I)V" } : Jvm.MethodName) ∈ lw_g := xg (xin_6 (List.mem_of_getElem? (i := 21) rfl)) rfl
theorem wf_X12_245 : Cond.fieldLink "RopeDanceModel" (245 : Nat) "RopeDanceModel" "branches" "I" ∈ lw_g := xg (xin_6 (List.mem_of_getElem? (i := 106) rfl)) rfl
theorem wf_X12_248 : Cond.fieldLink "RopeDanceModel" (248 : Nat) "RopeDanceModel" "codes" "I" ∈ lw_g := xg (xin_6 (List.mem_of_getElem? (i := 112) rfl)) rfl
theorem wf_X12_37 : Cond.fieldLink "RopeDanceModel" (37 : Nat) "RopeDanceModel" "place" "I" ∈ lw_g := xg (xin_6 (List.mem_of_getElem? (i := 92) rfl)) rfl
theorem wk_X12_begins : Cond.code ({ cls := "RopeDanceModel", name := "begins", desc := "()V" } : Jvm.MethodName) prog_14_method_50_code (2 : Nat) (Option.none : Option Jvm.ClassFile.FieldType) ∈ lw_g := xg (xin_6 (List.mem_of_getElem? (i := 71) rfl)) rfl
theorem MK_X12_begins : MK yX12_begins bX12_begins 2 none 0 := ⟨wn_X12, wk_X12_begins, ⟨by decide, by decide, by decide +kernel⟩, by decide⟩
theorem wi_X12_begins : Cond.instanceMethod ({ cls := "RopeDanceModel", name := "begins", desc := "()V" } : Jvm.MethodName) ∈ lw_g := xg (xin_6 (List.mem_of_getElem? (i := 70) rfl)) rfl
theorem we_X12_begins : Cond.selects "RopeDanceModel" yX12_begins yX12_begins ∈ lw_g := xg (xip_3 (List.mem_of_getElem? (i := 14) rfl)) rfl
theorem wm_X12_163 : Cond.methodLink "RopeDanceModel" (163 : Nat) ({ cls := "RopeDanceModel", name := "begins", desc := "()V" } : Jvm.MethodName) ∈ lw_g := xg (xin_6 (List.mem_of_getElem? (i := 68) rfl)) rfl
theorem wk_X12_keepsRow : Cond.code ({ cls := "RopeDanceModel", name := "keepsRow", desc := "()V" } : Jvm.MethodName) prog_14_method_51_code (2 : Nat) (Option.none : Option Jvm.ClassFile.FieldType) ∈ lw_g := xg (xin_6 (List.mem_of_getElem? (i := 75) rfl)) rfl
theorem MK_X12_keepsRow : MK yX12_keepsRow bX12_keepsRow 2 none 0 := ⟨wn_X12, wk_X12_keepsRow, ⟨by decide, by decide, by decide +kernel⟩, by decide⟩
theorem wi_X12_keepsRow : Cond.instanceMethod ({ cls := "RopeDanceModel", name := "keepsRow", desc := "()V" } : Jvm.MethodName) ∈ lw_g := xg (xin_6 (List.mem_of_getElem? (i := 74) rfl)) rfl
theorem we_X12_keepsRow : Cond.selects "RopeDanceModel" yX12_keepsRow yX12_keepsRow ∈ lw_g := xg (xip_3 (List.mem_of_getElem? (i := 15) rfl)) rfl
theorem wm_X12_166 : Cond.methodLink "RopeDanceModel" (166 : Nat) ({ cls := "RopeDanceModel", name := "keepsRow", desc := "()V" } : Jvm.MethodName) ∈ lw_g := xg (xin_6 (List.mem_of_getElem? (i := 72) rfl)) rfl
theorem wf_X12_254 : Cond.fieldLink "RopeDanceModel" (254 : Nat) "RopeDanceModel" "undos" "I" ∈ lw_g := xg (xin_6 (List.mem_of_getElem? (i := 125) rfl)) rfl
theorem wf_X12_257 : Cond.fieldLink "RopeDanceModel" (257 : Nat) "RopeDanceModel" "tolds" "I" ∈ lw_g := xg (xin_6 (List.mem_of_getElem? (i := 141) rfl)) rfl
theorem wf_X12_146 : Cond.fieldLink "RopeDanceModel" (146 : Nat) "RopeDanceModel" "isHeld" "[Z" ∈ lw_g := xg (xin_6 (List.mem_of_getElem? (i := 148) rfl)) rfl
theorem wk_X12_tellOne : Cond.code ({ cls := "RopeDanceModel", name := "tellOne", desc := "()V" } : Jvm.MethodName) prog_14_method_23_code (2 : Nat) (Option.none : Option Jvm.ClassFile.FieldType) ∈ lw_g := xg (xin_7 (List.mem_of_getElem? (i := 106) rfl)) rfl
theorem MK_X12_tellOne : MK yX12_tellOne bX12_tellOne 2 none 0 := ⟨wn_X12, wk_X12_tellOne, ⟨by decide, by decide, by decide +kernel⟩, by decide⟩
theorem wi_X12_tellOne : Cond.instanceMethod ({ cls := "RopeDanceModel", name := "tellOne", desc := "()V" } : Jvm.MethodName) ∈ lw_g := xg (xin_7 (List.mem_of_getElem? (i := 105) rfl)) rfl
theorem we_X12_tellOne : Cond.selects "RopeDanceModel" yX12_tellOne yX12_tellOne ∈ lw_g := xg (xip_4 (List.mem_of_getElem? (i := 6) rfl)) rfl
theorem wm_X12_251 : Cond.methodLink "RopeDanceModel" (251 : Nat) ({ cls := "RopeDanceModel", name := "tellOne", desc := "()V" } : Jvm.MethodName) ∈ lw_g := xg (xin_7 (List.mem_of_getElem? (i := 103) rfl)) rfl
theorem wk_X12_roomFor : Cond.code ({ cls := "RopeDanceModel", name := "roomFor", desc := "(II)V" } : Jvm.MethodName) prog_14_method_22_code (3 : Nat) (Option.none : Option Jvm.ClassFile.FieldType) ∈ lw_g := xg (xin_7 (List.mem_of_getElem? (i := 110) rfl)) rfl
theorem MK_X12_roomFor : MK yX12_roomFor bX12_roomFor 3 none 2 := ⟨wn_X12, wk_X12_roomFor, ⟨by decide, by decide, by decide +kernel⟩, by decide⟩
theorem wi_X12_roomFor : Cond.instanceMethod ({ cls := "RopeDanceModel", name := "roomFor", desc := "(II)V" } : Jvm.MethodName) ∈ lw_g := xg (xin_7 (List.mem_of_getElem? (i := 109) rfl)) rfl
theorem we_X12_roomFor : Cond.selects "RopeDanceModel" yX12_roomFor yX12_roomFor ∈ lw_g := xg (xip_4 (List.mem_of_getElem? (i := 7) rfl)) rfl
theorem wm_X12_260 : Cond.methodLink "RopeDanceModel" (260 : Nat) ({ cls := "RopeDanceModel", name := "roomFor", desc := "(II)V" } : Jvm.MethodName) ∈ lw_g := xg (xin_7 (List.mem_of_getElem? (i := 107) rfl)) rfl
theorem wk_X12_tellRow : Cond.code ({ cls := "RopeDanceModel", name := "tellRow", desc := "(IZ)V" } : Jvm.MethodName) prog_14_method_24_code (8 : Nat) (Option.none : Option Jvm.ClassFile.FieldType) ∈ lw_g := xg (xin_7 (List.mem_of_getElem? (i := 122) rfl)) rfl
theorem MK_X12_tellRow : MK yX12_tellRow bX12_tellRow 8 none 2 := ⟨wn_X12, wk_X12_tellRow, ⟨by decide, by decide, by decide +kernel⟩, by decide⟩
theorem wi_X12_tellRow : Cond.instanceMethod ({ cls := "RopeDanceModel", name := "tellRow", desc := "(IZ)V" } : Jvm.MethodName) ∈ lw_g := xg (xin_7 (List.mem_of_getElem? (i := 121) rfl)) rfl
theorem we_X12_tellRow : Cond.selects "RopeDanceModel" yX12_tellRow yX12_tellRow ∈ lw_g := xg (xip_4 (List.mem_of_getElem? (i := 10) rfl)) rfl
theorem wm_X12_264 : Cond.methodLink "RopeDanceModel" (264 : Nat) ({ cls := "RopeDanceModel", name := "tellRow", desc := "(IZ)V" } : Jvm.MethodName) ∈ lw_g := xg (xin_7 (List.mem_of_getElem? (i := 119) rfl)) rfl
theorem wk_X12_bounded : Cond.code ({ cls := "RopeDanceModel", name := "bounded", desc := "(II)I" } : Jvm.MethodName) prog_14_method_25_code (4 : Nat) (Option.some Jvm.ClassFile.FieldType.int) ∈ lw_g := xg (xin_7 (List.mem_of_getElem? (i := 134) rfl)) rfl
theorem MK_X12_bounded : MK yX12_bounded bX12_bounded 4 (some .int) 2 := ⟨wn_X12, wk_X12_bounded, ⟨by decide, by decide, by decide +kernel⟩, by decide⟩
theorem wi_X12_bounded : Cond.instanceMethod ({ cls := "RopeDanceModel", name := "bounded", desc := "(II)I" } : Jvm.MethodName) ∈ lw_g := xg (xin_7 (List.mem_of_getElem? (i := 133) rfl)) rfl
theorem we_X12_bounded : Cond.selects "RopeDanceModel" yX12_bounded yX12_bounded ∈ lw_g := xg (xip_4 (List.mem_of_getElem? (i := 13) rfl)) rfl
theorem wm_X12_268 : Cond.methodLink "RopeDanceModel" (268 : Nat) ({ cls := "RopeDanceModel", name := "bounded", desc := "(II)I" } : Jvm.MethodName) ∈ lw_g := xg (xin_7 (List.mem_of_getElem? (i := 131) rfl)) rfl
theorem wk_X12_must : Cond.code ({ cls := "RopeDanceModel", name := "must", desc := "(I)V" } : Jvm.MethodName) prog_14_method_18_code (2 : Nat) (Option.none : Option Jvm.ClassFile.FieldType) ∈ lw_g := xg (xin_7 (List.mem_of_getElem? (i := 126) rfl)) rfl
theorem MK_X12_must : MK yX12_must bX12_must 2 none 1 := ⟨wn_X12, wk_X12_must, ⟨by decide, by decide, by decide +kernel⟩, by decide⟩
theorem wi_X12_must : Cond.instanceMethod ({ cls := "RopeDanceModel", name := "must", desc := "(I)V" } : Jvm.MethodName) ∈ lw_g := xg (xin_7 (List.mem_of_getElem? (i := 125) rfl)) rfl
theorem we_X12_must : Cond.selects "RopeDanceModel" yX12_must yX12_must ∈ lw_g := xg (xip_4 (List.mem_of_getElem? (i := 11) rfl)) rfl
theorem wm_X12_272 : Cond.methodLink "RopeDanceModel" (272 : Nat) ({ cls := "RopeDanceModel", name := "must", desc := "(I)V" } : Jvm.MethodName) ∈ lw_g := xg (xin_7 (List.mem_of_getElem? (i := 123) rfl)) rfl
theorem wk_X12_tellLaw : Cond.code ({ cls := "RopeDanceModel", name := "tellLaw", desc := "(I)V" } : Jvm.MethodName) prog_14_method_26_code (4 : Nat) (Option.none : Option Jvm.ClassFile.FieldType) ∈ lw_g := xg (xin_7 (List.mem_of_getElem? (i := 138) rfl)) rfl
theorem MK_X12_tellLaw : MK yX12_tellLaw bX12_tellLaw 4 none 1 := ⟨wn_X12, wk_X12_tellLaw, ⟨by decide, by decide, by decide +kernel⟩, by decide⟩
theorem wi_X12_tellLaw : Cond.instanceMethod ({ cls := "RopeDanceModel", name := "tellLaw", desc := "(I)V" } : Jvm.MethodName) ∈ lw_g := xg (xin_7 (List.mem_of_getElem? (i := 137) rfl)) rfl
theorem we_X12_tellLaw : Cond.selects "RopeDanceModel" yX12_tellLaw yX12_tellLaw ∈ lw_g := xg (xip_4 (List.mem_of_getElem? (i := 14) rfl)) rfl
theorem wm_X12_275 : Cond.methodLink "RopeDanceModel" (275 : Nat) ({ cls := "RopeDanceModel", name := "tellLaw", desc := "(I)V" } : Jvm.MethodName) ∈ lw_g := xg (xin_7 (List.mem_of_getElem? (i := 135) rfl)) rfl
theorem wf_X12_49 : Cond.fieldLink "RopeDanceModel" (49 : Nat) "RopeDanceModel" "moveMany" "[I" ∈ lw_g := xg (xin_6 (List.mem_of_getElem? (i := 99) rfl)) rfl
theorem wf_X12_40 : Cond.fieldLink "RopeDanceModel" (40 : Nat) "RopeDanceModel" "nameOf" "[J" ∈ lw_g := xg (xin_6 (List.mem_of_getElem? (i := 96) rfl)) rfl
theorem wf_X12_58 : Cond.fieldLink "RopeDanceModel" (58 : Nat) "RopeDanceModel" "firstTangle" "[I" ∈ lw_g := xg (xin_6 (List.mem_of_getElem? (i := 102) rfl)) rfl
theorem wk_X12_wrong : Cond.code ({ cls := "RopeDanceModel", name := "wrong", desc := "(II)V" } : Jvm.MethodName) prog_14_method_16_code (4 : Nat) (Option.none : Option Jvm.ClassFile.FieldType) ∈ lw_g := xg (xin_7 (List.mem_of_getElem? (i := 130) rfl)) rfl
theorem MK_X12_wrong : MK yX12_wrong bX12_wrong 4 none 2 := ⟨wn_X12, wk_X12_wrong, ⟨by decide, by decide, by decide +kernel⟩, by decide⟩
theorem wi_X12_wrong : Cond.instanceMethod ({ cls := "RopeDanceModel", name := "wrong", desc := "(II)V" } : Jvm.MethodName) ∈ lw_g := xg (xin_7 (List.mem_of_getElem? (i := 129) rfl)) rfl
theorem we_X12_wrong : Cond.selects "RopeDanceModel" yX12_wrong yX12_wrong ∈ lw_g := xg (xip_4 (List.mem_of_getElem? (i := 12) rfl)) rfl
theorem wm_X12_278 : Cond.methodLink "RopeDanceModel" (278 : Nat) ({ cls := "RopeDanceModel", name := "wrong", desc := "(II)V" } : Jvm.MethodName) ∈ lw_g := xg (xin_7 (List.mem_of_getElem? (i := 127) rfl)) rfl
theorem wf_X12_52 : Cond.fieldLink "RopeDanceModel" (52 : Nat) "RopeDanceModel" "moveKind" "[I" ∈ lw_g := xg (xin_6 (List.mem_of_getElem? (i := 100) rfl)) rfl
theorem wf_X12_55 : Cond.fieldLink "RopeDanceModel" (55 : Nat) "RopeDanceModel" "moveInt" "[I" ∈ lw_g := xg (xin_6 (List.mem_of_getElem? (i := 101) rfl)) rfl
theorem wk_X12_madeBy : Cond.code ({ cls := "RopeDanceModel", name := "madeBy", desc := "(III)I" } : Jvm.MethodName) prog_14_method_37_code (6 : Nat) (Option.some Jvm.ClassFile.FieldType.int) ∈ lw_g := xg (xin_6 (List.mem_of_getElem? (i := 61) rfl)) rfl
theorem MK_X12_madeBy : MK yX12_madeBy bX12_madeBy 6 (some .int) 3 := ⟨wn_X12, wk_X12_madeBy, ⟨by decide, by decide, by decide +kernel⟩, by decide⟩
theorem ws_X12_madeBy : Cond.static ({ cls := "RopeDanceModel", name := "madeBy", desc := "(III)I" } : Jvm.MethodName) ∈ lw_g := xg (xin_6 (List.mem_of_getElem? (i := 60) rfl)) rfl
theorem wm_X12_281 : Cond.methodLink "RopeDanceModel" (281 : Nat) ({ cls := "RopeDanceModel", name := "madeBy", desc := "(III)I" } : Jvm.MethodName) ∈ lw_g := xg (xin_6 (List.mem_of_getElem? (i := 59) rfl)) rfl
theorem wf_X12_70 : Cond.fieldLink "RopeDanceModel" (70 : Nat) "RopeDanceModel" "hasTest" "[Z" ∈ lw_g := xg (xin_6 (List.mem_of_getElem? (i := 107) rfl)) rfl
theorem wk_X12_term : Cond.code ({ cls := "RopeDanceModel", name := "term", desc := "()V" } : Jvm.MethodName) prog_14_method_27_code (1 : Nat) (Option.none : Option Jvm.ClassFile.FieldType) ∈ lw_g := xg (xin_7 (List.mem_of_getElem? (i := 158) rfl)) rfl
theorem MK_X12_term : MK yX12_term bX12_term 1 none 0 := ⟨wn_X12, wk_X12_term, ⟨by decide, by decide, by decide +kernel⟩, by decide⟩
theorem wi_X12_term : Cond.instanceMethod ({ cls := "RopeDanceModel", name := "term", desc := "()V" } : Jvm.MethodName) ∈ lw_g := xg (xin_7 (List.mem_of_getElem? (i := 157) rfl)) rfl
theorem we_X12_term : Cond.selects "RopeDanceModel" yX12_term yX12_term ∈ lw_g := xg (xip_5 (List.mem_of_getElem? (i := 3) rfl)) rfl
theorem wm_X12_287 : Cond.methodLink "RopeDanceModel" (287 : Nat) ({ cls := "RopeDanceModel", name := "term", desc := "()V" } : Jvm.MethodName) ∈ lw_g := xg (xin_7 (List.mem_of_getElem? (i := 155) rfl)) rfl
theorem wf_X12_74 : Cond.fieldLink "RopeDanceModel" (74 : Nat) "RopeDanceModel" "testFrom" "[I" ∈ lw_g := xg (xin_6 (List.mem_of_getElem? (i := 108) rfl)) rfl
theorem wk_X12_expression : Cond.code ({ cls := "RopeDanceModel", name := "expression", desc := "()V" } : Jvm.MethodName) prog_14_method_30_code (3 : Nat) (Option.none : Option Jvm.ClassFile.FieldType) ∈ lw_g := xg (xin_7 (List.mem_of_getElem? (i := 142) rfl)) rfl
theorem MK_X12_expression : MK yX12_expression bX12_expression 3 none 0 := ⟨wn_X12, wk_X12_expression, ⟨by decide, by decide, by decide +kernel⟩, by decide⟩
theorem wi_X12_expression : Cond.instanceMethod ({ cls := "RopeDanceModel", name := "expression", desc := "()V" } : Jvm.MethodName) ∈ lw_g := xg (xin_7 (List.mem_of_getElem? (i := 141) rfl)) rfl
theorem we_X12_expression : Cond.selects "RopeDanceModel" yX12_expression yX12_expression ∈ lw_g := xg (xip_4 (List.mem_of_getElem? (i := 15) rfl)) rfl
theorem wm_X12_284 : Cond.methodLink "RopeDanceModel" (284 : Nat) ({ cls := "RopeDanceModel", name := "expression", desc := "()V" } : Jvm.MethodName) ∈ lw_g := xg (xin_7 (List.mem_of_getElem? (i := 139) rfl)) rfl
theorem wf_X12_77 : Cond.fieldLink "RopeDanceModel" (77 : Nat) "RopeDanceModel" "testMid" "[I" ∈ lw_g := xg (xin_6 (List.mem_of_getElem? (i := 109) rfl)) rfl
theorem wf_X12_80 : Cond.fieldLink "RopeDanceModel" (80 : Nat) "RopeDanceModel" "testTo" "[I" ∈ lw_g := xg (xin_6 (List.mem_of_getElem? (i := 110) rfl)) rfl
theorem wf_X12_83 : Cond.fieldLink "RopeDanceModel" (83 : Nat) "RopeDanceModel" "termTo" "[I" ∈ lw_g := xg (xin_6 (List.mem_of_getElem? (i := 111) rfl)) rfl
theorem wf_X12_86 : Cond.fieldLink "RopeDanceModel" (86 : Nat) "RopeDanceModel" "code" "[I" ∈ lw_g := xg (xin_6 (List.mem_of_getElem? (i := 113) rfl)) rfl
theorem wf_X12_89 : Cond.fieldLink "RopeDanceModel" (89 : Nat) "RopeDanceModel" "codeInt" "[I" ∈ lw_g := xg (xin_6 (List.mem_of_getElem? (i := 114) rfl)) rfl
theorem wf_X12_290 : Cond.fieldLink "RopeDanceModel" (290 : Nat) "RopeDanceModel" "waiting" "I" ∈ lw_g := xg (xin_6 (List.mem_of_getElem? (i := 116) rfl)) rfl
theorem wf_X12_92 : Cond.fieldLink "RopeDanceModel" (92 : Nat) "RopeDanceModel" "waits" "[I" ∈ lw_g := xg (xin_6 (List.mem_of_getElem? (i := 115) rfl)) rfl
theorem wk_X12_emit : Cond.code ({ cls := "RopeDanceModel", name := "emit", desc := "(II)V" } : Jvm.MethodName) prog_14_method_28_code (3 : Nat) (Option.none : Option Jvm.ClassFile.FieldType) ∈ lw_g := xg (xin_7 (List.mem_of_getElem? (i := 150) rfl)) rfl
theorem MK_X12_emit : MK yX12_emit bX12_emit 3 none 2 := ⟨wn_X12, wk_X12_emit, ⟨by decide, by decide, by decide +kernel⟩, by decide⟩
theorem wi_X12_emit : Cond.instanceMethod ({ cls := "RopeDanceModel", name := "emit", desc := "(II)V" } : Jvm.MethodName) ∈ lw_g := xg (xin_7 (List.mem_of_getElem? (i := 149) rfl)) rfl
theorem we_X12_emit : Cond.selects "RopeDanceModel" yX12_emit yX12_emit ∈ lw_g := xg (xip_5 (List.mem_of_getElem? (i := 1) rfl)) rfl
theorem wm_X12_293 : Cond.methodLink "RopeDanceModel" (293 : Nat) ({ cls := "RopeDanceModel", name := "emit", desc := "(II)V" } : Jvm.MethodName) ∈ lw_g := xg (xin_7 (List.mem_of_getElem? (i := 147) rfl)) rfl
theorem wk_X12_unit : Cond.code ({ cls := "RopeDanceModel", name := "unit", desc := "()V" } : Jvm.MethodName) prog_14_method_31_code (1 : Nat) (Option.none : Option Jvm.ClassFile.FieldType) ∈ lw_g := xg (xin_7 (List.mem_of_getElem? (i := 146) rfl)) rfl
theorem MK_X12_unit : MK yX12_unit bX12_unit 1 none 0 := ⟨wn_X12, wk_X12_unit, ⟨by decide, by decide, by decide +kernel⟩, by decide⟩
theorem wi_X12_unit : Cond.instanceMethod ({ cls := "RopeDanceModel", name := "unit", desc := "()V" } : Jvm.MethodName) ∈ lw_g := xg (xin_7 (List.mem_of_getElem? (i := 145) rfl)) rfl
theorem we_X12_unit : Cond.selects "RopeDanceModel" yX12_unit yX12_unit ∈ lw_g := xg (xip_5 (List.mem_of_getElem? (i := 0) rfl)) rfl
theorem wm_X12_296 : Cond.methodLink "RopeDanceModel" (296 : Nat) ({ cls := "RopeDanceModel", name := "unit", desc := "()V" } : Jvm.MethodName) ∈ lw_g := xg (xin_7 (List.mem_of_getElem? (i := 143) rfl)) rfl
theorem wk_X12_comesOut : Cond.code ({ cls := "RopeDanceModel", name := "comesOut", desc := "(Z)V" } : Jvm.MethodName) prog_14_method_29_code (3 : Nat) (Option.none : Option Jvm.ClassFile.FieldType) ∈ lw_g := xg (xin_7 (List.mem_of_getElem? (i := 154) rfl)) rfl
theorem MK_X12_comesOut : MK yX12_comesOut bX12_comesOut 3 none 1 := ⟨wn_X12, wk_X12_comesOut, ⟨by decide, by decide, by decide +kernel⟩, by decide⟩
theorem wi_X12_comesOut : Cond.instanceMethod ({ cls := "RopeDanceModel", name := "comesOut", desc := "(Z)V" } : Jvm.MethodName) ∈ lw_g := xg (xin_7 (List.mem_of_getElem? (i := 153) rfl)) rfl
theorem we_X12_comesOut : Cond.selects "RopeDanceModel" yX12_comesOut yX12_comesOut ∈ lw_g := xg (xip_5 (List.mem_of_getElem? (i := 2) rfl)) rfl
theorem wm_X12_299 : Cond.methodLink "RopeDanceModel" (299 : Nat) ({ cls := "RopeDanceModel", name := "comesOut", desc := "(Z)V" } : Jvm.MethodName) ∈ lw_g := xg (xin_7 (List.mem_of_getElem? (i := 151) rfl)) rfl
theorem wf_X12_98 : Cond.fieldLink "RopeDanceModel" (98 : Nat) "RopeDanceModel" "pile" "[I" ∈ lw_g := xg (xin_6 (List.mem_of_getElem? (i := 118) rfl)) rfl
theorem wf_X12_303 : Cond.fieldLink "RopeDanceModel" (303 : Nat) "RopeDanceModel" "isBroken" "Z" ∈ lw_g := xg (xin_6 (List.mem_of_getElem? (i := 119) rfl)) rfl
theorem wf_X12_95 : Cond.fieldLink "RopeDanceModel" (95 : Nat) "RopeDanceModel" "variables" "[I" ∈ lw_g := xg (xin_6 (List.mem_of_getElem? (i := 117) rfl)) rfl
theorem wk_X12_overOf : Cond.code ({ cls := "RopeDanceModel", name := "overOf", desc := "(I)I" } : Jvm.MethodName) prog_14_method_33_code (1 : Nat) (Option.some Jvm.ClassFile.FieldType.int) ∈ lw_g := xg (xin_6 (List.mem_of_getElem? (i := 64) rfl)) rfl
theorem MK_X12_overOf : MK yX12_overOf bX12_overOf 1 (some .int) 1 := ⟨wn_X12, wk_X12_overOf, ⟨by decide, by decide, by decide +kernel⟩, by decide⟩
theorem ws_X12_overOf : Cond.static ({ cls := "RopeDanceModel", name := "overOf", desc := "(I)I" } : Jvm.MethodName) ∈ lw_g := xg (xin_6 (List.mem_of_getElem? (i := 63) rfl)) rfl
theorem wm_X12_307 : Cond.methodLink "RopeDanceModel" (307 : Nat) ({ cls := "RopeDanceModel", name := "overOf", desc := "(I)I" } : Jvm.MethodName) ∈ lw_g := xg (xin_6 (List.mem_of_getElem? (i := 62) rfl)) rfl
theorem wk_X12_underOf : Cond.code ({ cls := "RopeDanceModel", name := "underOf", desc := "(I)I" } : Jvm.MethodName) prog_14_method_34_code (1 : Nat) (Option.some Jvm.ClassFile.FieldType.int) ∈ lw_g := xg (xin_6 (List.mem_of_getElem? (i := 67) rfl)) rfl
theorem MK_X12_underOf : MK yX12_underOf bX12_underOf 1 (some .int) 1 := ⟨wn_X12, wk_X12_underOf, ⟨by decide, by decide, by decide +kernel⟩, by decide⟩
theorem ws_X12_underOf : Cond.static ({ cls := "RopeDanceModel", name := "underOf", desc := "(I)I" } : Jvm.MethodName) ∈ lw_g := xg (xin_6 (List.mem_of_getElem? (i := 66) rfl)) rfl
theorem wm_X12_310 : Cond.methodLink "RopeDanceModel" (310 : Nat) ({ cls := "RopeDanceModel", name := "underOf", desc := "(I)I" } : Jvm.MethodName) ∈ lw_g := xg (xin_6 (List.mem_of_getElem? (i := 65) rfl)) rfl
theorem wk_X12_off : Cond.code ({ cls := "RopeDanceModel", name := "off", desc := "(I)I" } : Jvm.MethodName) prog_14_method_36_code (1 : Nat) (Option.some Jvm.ClassFile.FieldType.int) ∈ lw_g := xg (xin_6 (List.mem_of_getElem? (i := 41) rfl)) rfl
theorem MK_X12_off : MK yX12_off bX12_off 1 (some .int) 1 := ⟨wn_X12, wk_X12_off, ⟨by decide, by decide, by decide +kernel⟩, by decide⟩
theorem ws_X12_off : Cond.static ({ cls := "RopeDanceModel", name := "off", desc := "(I)I" } : Jvm.MethodName) ∈ lw_g := xg (xin_6 (List.mem_of_getElem? (i := 40) rfl)) rfl
theorem wm_X12_316 : Cond.methodLink "RopeDanceModel" (316 : Nat) ({ cls := "RopeDanceModel", name := "off", desc := "(I)I" } : Jvm.MethodName) ∈ lw_g := xg (xin_6 (List.mem_of_getElem? (i := 39) rfl)) rfl
theorem wk_X12_numberOf : Cond.code ({ cls := "RopeDanceModel", name := "numberOf", desc := "(II)I" } : Jvm.MethodName) prog_14_method_35_code (2 : Nat) (Option.some Jvm.ClassFile.FieldType.int) ∈ lw_g := xg (xin_6 (List.mem_of_getElem? (i := 51) rfl)) rfl
theorem MK_X12_numberOf : MK yX12_numberOf bX12_numberOf 2 (some .int) 2 := ⟨wn_X12, wk_X12_numberOf, ⟨by decide, by decide, by decide +kernel⟩, by decide⟩
theorem ws_X12_numberOf : Cond.static ({ cls := "RopeDanceModel", name := "numberOf", desc := "(II)I" } : Jvm.MethodName) ∈ lw_g := xg (xin_6 (List.mem_of_getElem? (i := 50) rfl)) rfl
theorem wm_X12_313 : Cond.methodLink "RopeDanceModel" (313 : Nat) ({ cls := "RopeDanceModel", name := "numberOf", desc := "(II)I" } : Jvm.MethodName) ∈ lw_g := xg (xin_6 (List.mem_of_getElem? (i := 49) rfl)) rfl
theorem wk_X12_greatest : Cond.code ({ cls := "RopeDanceModel", name := "greatest", desc := "(II)I" } : Jvm.MethodName) prog_14_method_38_code (5 : Nat) (Option.some Jvm.ClassFile.FieldType.int) ∈ lw_g := xg (xin_6 (List.mem_of_getElem? (i := 44) rfl)) rfl
theorem MK_X12_greatest : MK yX12_greatest bX12_greatest 5 (some .int) 2 := ⟨wn_X12, wk_X12_greatest, ⟨by decide, by decide, by decide +kernel⟩, by decide⟩
theorem ws_X12_greatest : Cond.static ({ cls := "RopeDanceModel", name := "greatest", desc := "(II)I" } : Jvm.MethodName) ∈ lw_g := xg (xin_6 (List.mem_of_getElem? (i := 43) rfl)) rfl
theorem wm_X12_319 : Cond.methodLink "RopeDanceModel" (319 : Nat) ({ cls := "RopeDanceModel", name := "greatest", desc := "(II)I" } : Jvm.MethodName) ∈ lw_g := xg (xin_6 (List.mem_of_getElem? (i := 42) rfl)) rfl
theorem wk_X12_rowAt : Cond.code ({ cls := "RopeDanceModel", name := "rowAt", desc := "(I)I" } : Jvm.MethodName) prog_14_method_43_code (2 : Nat) (Option.some Jvm.ClassFile.FieldType.int) ∈ lw_g := xg (xin_7 (List.mem_of_getElem? (i := 230) rfl)) rfl
theorem MK_X12_rowAt : MK yX12_rowAt bX12_rowAt 2 (some .int) 1 := ⟨wn_X12, wk_X12_rowAt, ⟨by decide, by decide, by decide +kernel⟩, by decide⟩
theorem wi_X12_rowAt : Cond.instanceMethod ({ cls := "RopeDanceModel", name := "rowAt", desc := "(I)I" } : Jvm.MethodName) ∈ lw_g := xg (xin_7 (List.mem_of_getElem? (i := 229) rfl)) rfl
theorem we_X12_rowAt : Cond.selects "RopeDanceModel" yX12_rowAt yX12_rowAt ∈ lw_g := xg (xip_5 (List.mem_of_getElem? (i := 15) rfl)) rfl
theorem wm_X12_322 : Cond.methodLink "RopeDanceModel" (322 : Nat) ({ cls := "RopeDanceModel", name := "rowAt", desc := "(I)I" } : Jvm.MethodName) ∈ lw_g := xg (xin_7 (List.mem_of_getElem? (i := 227) rfl)) rfl
theorem wk_X12_in : Cond.code ({ cls := "RopeDanceModel", name := "in", desc := "(III)Z" } : Jvm.MethodName) prog_14_method_46_code (3 : Nat) (Option.some Jvm.ClassFile.FieldType.boolean) ∈ lw_g := xg (xin_7 (List.mem_of_getElem? (i := 173) rfl)) rfl
theorem MK_X12_in : MK yX12_in bX12_in 3 (some .boolean) 3 := ⟨wn_X12, wk_X12_in, ⟨by decide, by decide, by decide +kernel⟩, by decide⟩
theorem ws_X12_in : Cond.static ({ cls := "RopeDanceModel", name := "in", desc := "(III)Z" } : Jvm.MethodName) ∈ lw_g := xg (xin_7 (List.mem_of_getElem? (i := 172) rfl)) rfl
theorem wm_X12_325 : Cond.methodLink "RopeDanceModel" (325 : Nat) ({ cls := "RopeDanceModel", name := "in", desc := "(III)Z" } : Jvm.MethodName) ∈ lw_g := xg (xin_7 (List.mem_of_getElem? (i := 171) rfl)) rfl
theorem wf_X12_329 : Cond.fieldLink "RopeDanceModel" (329 : Nat) "RopeDanceModel" "lots" "I" ∈ lw_g := xg (xin_6 (List.mem_of_getElem? (i := 122) rfl)) rfl
theorem wf_X12_104 : Cond.fieldLink "RopeDanceModel" (104 : Nat) "RopeDanceModel" "row" "[I" ∈ lw_g := xg (xin_6 (List.mem_of_getElem? (i := 121) rfl)) rfl
theorem wf_X12_101 : Cond.fieldLink "RopeDanceModel" (101 : Nat) "RopeDanceModel" "now" "[I" ∈ lw_g := xg (xin_6 (List.mem_of_getElem? (i := 120) rfl)) rfl
theorem wc_X12_332 : Cond.constant "RopeDanceModel" (332 : Nat) (1103515245 : Int32) ∈ lw_g := xg (xin_8 (List.mem_of_getElem? (i := 53) rfl)) rfl
theorem wk_X12_mixed : Cond.code ({ cls := "RopeDanceModel", name := "mixed", desc := "(II)I" } : Jvm.MethodName) prog_14_method_53_code (3 : Nat) (Option.some Jvm.ClassFile.FieldType.int) ∈ lw_g := xg (xin_8 (List.mem_of_getElem? (i := 52) rfl)) rfl
theorem MK_X12_mixed : MK yX12_mixed bX12_mixed 3 (some .int) 2 := ⟨wn_X12, wk_X12_mixed, ⟨by decide, by decide, by decide +kernel⟩, by decide⟩
theorem ws_X12_mixed : Cond.static ({ cls := "RopeDanceModel", name := "mixed", desc := "(II)I" } : Jvm.MethodName) ∈ lw_g := xg (xin_8 (List.mem_of_getElem? (i := 51) rfl)) rfl
theorem wm_X12_333 : Cond.methodLink "RopeDanceModel" (333 : Nat) ({ cls := "RopeDanceModel", name := "mixed", desc := "(II)I" } : Jvm.MethodName) ∈ lw_g := xg (xin_8 (List.mem_of_getElem? (i := 50) rfl)) rfl
theorem wk_X12_termOf : Cond.code ({ cls := "RopeDanceModel", name := "termOf", desc := "(II)I" } : Jvm.MethodName) prog_14_method_32_code (8 : Nat) (Option.some Jvm.ClassFile.FieldType.int) ∈ lw_g := xg (xin_7 (List.mem_of_getElem? (i := 199) rfl)) rfl
theorem MK_X12_termOf : MK yX12_termOf bX12_termOf 8 (some .int) 2 := ⟨wn_X12, wk_X12_termOf, ⟨by decide, by decide, by decide +kernel⟩, by decide⟩
theorem wi_X12_termOf : Cond.instanceMethod ({ cls := "RopeDanceModel", name := "termOf", desc := "(II)I" } : Jvm.MethodName) ∈ lw_g := xg (xin_7 (List.mem_of_getElem? (i := 198) rfl)) rfl
theorem we_X12_termOf : Cond.selects "RopeDanceModel" yX12_termOf yX12_termOf ∈ lw_g := xg (xip_5 (List.mem_of_getElem? (i := 9) rfl)) rfl
theorem wm_X12_336 : Cond.methodLink "RopeDanceModel" (336 : Nat) ({ cls := "RopeDanceModel", name := "termOf", desc := "(II)I" } : Jvm.MethodName) ∈ lw_g := xg (xin_7 (List.mem_of_getElem? (i := 196) rfl)) rfl
theorem wk_X12_crossingsOf : Cond.code ({ cls := "RopeDanceModel", name := "crossingsOf", desc := "(I)I" } : Jvm.MethodName) prog_14_method_40_code (5 : Nat) (Option.some Jvm.ClassFile.FieldType.int) ∈ lw_g := xg (xin_7 (List.mem_of_getElem? (i := 180) rfl)) rfl
theorem MK_X12_crossingsOf : MK yX12_crossingsOf bX12_crossingsOf 5 (some .int) 1 := ⟨wn_X12, wk_X12_crossingsOf, ⟨by decide, by decide, by decide +kernel⟩, by decide⟩
theorem ws_X12_crossingsOf : Cond.static ({ cls := "RopeDanceModel", name := "crossingsOf", desc := "(I)I" } : Jvm.MethodName) ∈ lw_g := xg (xin_7 (List.mem_of_getElem? (i := 179) rfl)) rfl
theorem wm_X12_339 : Cond.methodLink "RopeDanceModel" (339 : Nat) ({ cls := "RopeDanceModel", name := "crossingsOf", desc := "(I)I" } : Jvm.MethodName) ∈ lw_g := xg (xin_7 (List.mem_of_getElem? (i := 178) rfl)) rfl
theorem wk_X12_endsOf : Cond.code ({ cls := "RopeDanceModel", name := "endsOf", desc := "(I)I" } : Jvm.MethodName) prog_14_method_41_code (1 : Nat) (Option.some Jvm.ClassFile.FieldType.int) ∈ lw_g := xg (xin_7 (List.mem_of_getElem? (i := 183) rfl)) rfl
theorem MK_X12_endsOf : MK yX12_endsOf bX12_endsOf 1 (some .int) 1 := ⟨wn_X12, wk_X12_endsOf, ⟨by decide, by decide, by decide +kernel⟩, by decide⟩
theorem ws_X12_endsOf : Cond.static ({ cls := "RopeDanceModel", name := "endsOf", desc := "(I)I" } : Jvm.MethodName) ∈ lw_g := xg (xin_7 (List.mem_of_getElem? (i := 182) rfl)) rfl
theorem wm_X12_342 : Cond.methodLink "RopeDanceModel" (342 : Nat) ({ cls := "RopeDanceModel", name := "endsOf", desc := "(I)I" } : Jvm.MethodName) ∈ lw_g := xg (xin_7 (List.mem_of_getElem? (i := 181) rfl)) rfl
theorem wk_X12_looks : Cond.code ({ cls := "RopeDanceModel", name := "looks", desc := "(I)V" } : Jvm.MethodName) prog_14_method_56_code (2 : Nat) (Option.none : Option Jvm.ClassFile.FieldType) ∈ lw_g := xg (xin_7 (List.mem_of_getElem? (i := 191) rfl)) rfl
theorem MK_X12_looks : MK yX12_looks bX12_looks 2 none 1 := ⟨wn_X12, wk_X12_looks, ⟨by decide, by decide, by decide +kernel⟩, by decide⟩
theorem wi_X12_looks : Cond.instanceMethod ({ cls := "RopeDanceModel", name := "looks", desc := "(I)V" } : Jvm.MethodName) ∈ lw_g := xg (xin_7 (List.mem_of_getElem? (i := 190) rfl)) rfl
theorem we_X12_looks : Cond.selects "RopeDanceModel" yX12_looks yX12_looks ∈ lw_g := xg (xip_5 (List.mem_of_getElem? (i := 7) rfl)) rfl
theorem wm_X12_345 : Cond.methodLink "RopeDanceModel" (345 : Nat) ({ cls := "RopeDanceModel", name := "looks", desc := "(I)V" } : Jvm.MethodName) ∈ lw_g := xg (xin_7 (List.mem_of_getElem? (i := 188) rfl)) rfl
theorem wk_X12_movesOf : Cond.code ({ cls := "RopeDanceModel", name := "movesOf", desc := "(I)I" } : Jvm.MethodName) prog_14_method_45_code (2 : Nat) (Option.some Jvm.ClassFile.FieldType.int) ∈ lw_g := xg (xin_7 (List.mem_of_getElem? (i := 226) rfl)) rfl
theorem MK_X12_movesOf : MK yX12_movesOf bX12_movesOf 2 (some .int) 1 := ⟨wn_X12, wk_X12_movesOf, ⟨by decide, by decide, by decide +kernel⟩, by decide⟩
theorem wi_X12_movesOf : Cond.instanceMethod ({ cls := "RopeDanceModel", name := "movesOf", desc := "(I)I" } : Jvm.MethodName) ∈ lw_g := xg (xin_7 (List.mem_of_getElem? (i := 225) rfl)) rfl
theorem we_X12_movesOf : Cond.selects "RopeDanceModel" yX12_movesOf yX12_movesOf ∈ lw_g := xg (xip_5 (List.mem_of_getElem? (i := 14) rfl)) rfl
theorem wm_X12_348 : Cond.methodLink "RopeDanceModel" (348 : Nat) ({ cls := "RopeDanceModel", name := "movesOf", desc := "(I)I" } : Jvm.MethodName) ∈ lw_g := xg (xin_7 (List.mem_of_getElem? (i := 223) rfl)) rfl
theorem wk_X12_lawTells : Cond.code ({ cls := "RopeDanceModel", name := "lawTells", desc := "(II)I" } : Jvm.MethodName) prog_14_method_55_code (7 : Nat) (Option.some Jvm.ClassFile.FieldType.int) ∈ lw_g := xg (xin_7 (List.mem_of_getElem? (i := 195) rfl)) rfl
theorem MK_X12_lawTells : MK yX12_lawTells bX12_lawTells 7 (some .int) 2 := ⟨wn_X12, wk_X12_lawTells, ⟨by decide, by decide, by decide +kernel⟩, by decide⟩
theorem wi_X12_lawTells : Cond.instanceMethod ({ cls := "RopeDanceModel", name := "lawTells", desc := "(II)I" } : Jvm.MethodName) ∈ lw_g := xg (xin_7 (List.mem_of_getElem? (i := 194) rfl)) rfl
theorem we_X12_lawTells : Cond.selects "RopeDanceModel" yX12_lawTells yX12_lawTells ∈ lw_g := xg (xip_5 (List.mem_of_getElem? (i := 8) rfl)) rfl
theorem wm_X12_351 : Cond.methodLink "RopeDanceModel" (351 : Nat) ({ cls := "RopeDanceModel", name := "lawTells", desc := "(II)I" } : Jvm.MethodName) ∈ lw_g := xg (xin_7 (List.mem_of_getElem? (i := 192) rfl)) rfl
theorem wk_X12_within : Cond.code ({ cls := "RopeDanceModel", name := "within", desc := "(III)I" } : Jvm.MethodName) prog_14_method_47_code (3 : Nat) (Option.some Jvm.ClassFile.FieldType.int) ∈ lw_g := xg (xin_7 (List.mem_of_getElem? (i := 202) rfl)) rfl
theorem MK_X12_within : MK yX12_within bX12_within 3 (some .int) 3 := ⟨wn_X12, wk_X12_within, ⟨by decide, by decide, by decide +kernel⟩, by decide⟩
theorem ws_X12_within : Cond.static ({ cls := "RopeDanceModel", name := "within", desc := "(III)I" } : Jvm.MethodName) ∈ lw_g := xg (xin_7 (List.mem_of_getElem? (i := 201) rfl)) rfl
theorem wm_X12_354 : Cond.methodLink "RopeDanceModel" (354 : Nat) ({ cls := "RopeDanceModel", name := "within", desc := "(III)I" } : Jvm.MethodName) ∈ lw_g := xg (xin_7 (List.mem_of_getElem? (i := 200) rfl)) rfl
theorem wk_X12_calledBy : Cond.code ({ cls := "RopeDanceModel", name := "calledBy", desc := "(III)I" } : Jvm.MethodName) prog_14_method_44_code (6 : Nat) (Option.some Jvm.ClassFile.FieldType.int) ∈ lw_g := xg (xin_7 (List.mem_of_getElem? (i := 238) rfl)) rfl
theorem MK_X12_calledBy : MK yX12_calledBy bX12_calledBy 6 (some .int) 3 := ⟨wn_X12, wk_X12_calledBy, ⟨by decide, by decide, by decide +kernel⟩, by decide⟩
theorem wi_X12_calledBy : Cond.instanceMethod ({ cls := "RopeDanceModel", name := "calledBy", desc := "(III)I" } : Jvm.MethodName) ∈ lw_g := xg (xin_7 (List.mem_of_getElem? (i := 237) rfl)) rfl
theorem we_X12_calledBy : Cond.selects "RopeDanceModel" yX12_calledBy yX12_calledBy ∈ lw_g := xg (xip_6 (List.mem_of_getElem? (i := 0) rfl)) rfl
theorem wm_X12_357 : Cond.methodLink "RopeDanceModel" (357 : Nat) ({ cls := "RopeDanceModel", name := "calledBy", desc := "(III)I" } : Jvm.MethodName) ∈ lw_g := xg (xin_7 (List.mem_of_getElem? (i := 235) rfl)) rfl
theorem wk_X12_tiresOf : Cond.code ({ cls := "RopeDanceModel", name := "tiresOf", desc := "(II)I" } : Jvm.MethodName) prog_14_method_57_code (3 : Nat) (Option.some Jvm.ClassFile.FieldType.int) ∈ lw_g := xg (xin_7 (List.mem_of_getElem? (i := 222) rfl)) rfl
theorem MK_X12_tiresOf : MK yX12_tiresOf bX12_tiresOf 3 (some .int) 2 := ⟨wn_X12, wk_X12_tiresOf, ⟨by decide, by decide, by decide +kernel⟩, by decide⟩
theorem wi_X12_tiresOf : Cond.instanceMethod ({ cls := "RopeDanceModel", name := "tiresOf", desc := "(II)I" } : Jvm.MethodName) ∈ lw_g := xg (xin_7 (List.mem_of_getElem? (i := 221) rfl)) rfl
theorem we_X12_tiresOf : Cond.selects "RopeDanceModel" yX12_tiresOf yX12_tiresOf ∈ lw_g := xg (xip_5 (List.mem_of_getElem? (i := 13) rfl)) rfl
theorem wm_X12_360 : Cond.methodLink "RopeDanceModel" (360 : Nat) ({ cls := "RopeDanceModel", name := "tiresOf", desc := "(II)I" } : Jvm.MethodName) ∈ lw_g := xg (xin_7 (List.mem_of_getElem? (i := 219) rfl)) rfl
theorem wc_X12_363 : Cond.constant "RopeDanceModel" (363 : Nat) (100000 : Int32) ∈ lw_g := xg (xin_8 (List.mem_of_getElem? (i := 58) rfl)) rfl
theorem wk_X12_lotOf : Cond.code ({ cls := "RopeDanceModel", name := "lotOf", desc := "(II)I" } : Jvm.MethodName) prog_14_method_54_code (3 : Nat) (Option.some Jvm.ClassFile.FieldType.int) ∈ lw_g := xg (xin_8 (List.mem_of_getElem? (i := 49) rfl)) rfl
theorem MK_X12_lotOf : MK yX12_lotOf bX12_lotOf 3 (some .int) 2 := ⟨wn_X12, wk_X12_lotOf, ⟨by decide, by decide, by decide +kernel⟩, by decide⟩
theorem wi_X12_lotOf : Cond.instanceMethod ({ cls := "RopeDanceModel", name := "lotOf", desc := "(II)I" } : Jvm.MethodName) ∈ lw_g := xg (xin_8 (List.mem_of_getElem? (i := 48) rfl)) rfl
theorem we_X12_lotOf : Cond.selects "RopeDanceModel" yX12_lotOf yX12_lotOf ∈ lw_g := xg (xip_6 (List.mem_of_getElem? (i := 8) rfl)) rfl
theorem wm_X12_364 : Cond.methodLink "RopeDanceModel" (364 : Nat) ({ cls := "RopeDanceModel", name := "lotOf", desc := "(II)I" } : Jvm.MethodName) ∈ lw_g := xg (xin_8 (List.mem_of_getElem? (i := 46) rfl)) rfl
theorem wk_X12_slipsOf : Cond.code ({ cls := "RopeDanceModel", name := "slipsOf", desc := "(I)I" } : Jvm.MethodName) prog_14_method_60_code (2 : Nat) (Option.some Jvm.ClassFile.FieldType.int) ∈ lw_g := xg (xin_7 (List.mem_of_getElem? (i := 210) rfl)) rfl
theorem MK_X12_slipsOf : MK yX12_slipsOf bX12_slipsOf 2 (some .int) 1 := ⟨wn_X12, wk_X12_slipsOf, ⟨by decide, by decide, by decide +kernel⟩, by decide⟩
theorem wi_X12_slipsOf : Cond.instanceMethod ({ cls := "RopeDanceModel", name := "slipsOf", desc := "(I)I" } : Jvm.MethodName) ∈ lw_g := xg (xin_7 (List.mem_of_getElem? (i := 209) rfl)) rfl
theorem we_X12_slipsOf : Cond.selects "RopeDanceModel" yX12_slipsOf yX12_slipsOf ∈ lw_g := xg (xip_5 (List.mem_of_getElem? (i := 11) rfl)) rfl
theorem wm_X12_367 : Cond.methodLink "RopeDanceModel" (367 : Nat) ({ cls := "RopeDanceModel", name := "slipsOf", desc := "(I)I" } : Jvm.MethodName) ∈ lw_g := xg (xin_7 (List.mem_of_getElem? (i := 207) rfl)) rfl
theorem wk_X12_figuresNow : Cond.code ({ cls := "RopeDanceModel", name := "figuresNow", desc := "()I" } : Jvm.MethodName) prog_14_method_42_code (1 : Nat) (Option.some Jvm.ClassFile.FieldType.int) ∈ lw_g := xg (xin_8 (List.mem_of_getElem? (i := 45) rfl)) rfl
theorem MK_X12_figuresNow : MK yX12_figuresNow bX12_figuresNow 1 (some .int) 0 := ⟨wn_X12, wk_X12_figuresNow, ⟨by decide, by decide, by decide +kernel⟩, by decide⟩
theorem wi_X12_figuresNow : Cond.instanceMethod ({ cls := "RopeDanceModel", name := "figuresNow", desc := "()I" } : Jvm.MethodName) ∈ lw_g := xg (xin_8 (List.mem_of_getElem? (i := 44) rfl)) rfl
theorem we_X12_figuresNow : Cond.selects "RopeDanceModel" yX12_figuresNow yX12_figuresNow ∈ lw_g := xg (xip_6 (List.mem_of_getElem? (i := 7) rfl)) rfl
theorem wm_X12_370 : Cond.methodLink "RopeDanceModel" (370 : Nat) ({ cls := "RopeDanceModel", name := "figuresNow", desc := "()I" } : Jvm.MethodName) ∈ lw_g := xg (xin_8 (List.mem_of_getElem? (i := 42) rfl)) rfl
theorem wk_X12_restsOf : Cond.code ({ cls := "RopeDanceModel", name := "restsOf", desc := "(I)I" } : Jvm.MethodName) prog_14_method_58_code (2 : Nat) (Option.some Jvm.ClassFile.FieldType.int) ∈ lw_g := xg (xin_7 (List.mem_of_getElem? (i := 187) rfl)) rfl
theorem MK_X12_restsOf : MK yX12_restsOf bX12_restsOf 2 (some .int) 1 := ⟨wn_X12, wk_X12_restsOf, ⟨by decide, by decide, by decide +kernel⟩, by decide⟩
theorem wi_X12_restsOf : Cond.instanceMethod ({ cls := "RopeDanceModel", name := "restsOf", desc := "(I)I" } : Jvm.MethodName) ∈ lw_g := xg (xin_7 (List.mem_of_getElem? (i := 186) rfl)) rfl
theorem we_X12_restsOf : Cond.selects "RopeDanceModel" yX12_restsOf yX12_restsOf ∈ lw_g := xg (xip_5 (List.mem_of_getElem? (i := 6) rfl)) rfl
theorem wm_X12_380 : Cond.methodLink "RopeDanceModel" (380 : Nat) ({ cls := "RopeDanceModel", name := "restsOf", desc := "(I)I" } : Jvm.MethodName) ∈ lw_g := xg (xin_7 (List.mem_of_getElem? (i := 184) rfl)) rfl
theorem wk_X12_calls : Cond.code ({ cls := "RopeDanceModel", name := "calls", desc := "(III)Z" } : Jvm.MethodName) prog_14_method_61_code (5 : Nat) (Option.some Jvm.ClassFile.FieldType.boolean) ∈ lw_g := xg (xin_8 (List.mem_of_getElem? (i := 6) rfl)) rfl
theorem MK_X12_calls : MK yX12_calls bX12_calls 5 (some .boolean) 3 := ⟨wn_X12, wk_X12_calls, ⟨by decide, by decide, by decide +kernel⟩, by decide⟩
theorem wi_X12_calls : Cond.instanceMethod ({ cls := "RopeDanceModel", name := "calls", desc := "(III)Z" } : Jvm.MethodName) ∈ lw_g := xg (xin_8 (List.mem_of_getElem? (i := 5) rfl)) rfl
theorem we_X12_calls : Cond.selects "RopeDanceModel" yX12_calls yX12_calls ∈ lw_g := xg (xip_6 (List.mem_of_getElem? (i := 1) rfl)) rfl
theorem wm_X12_377 : Cond.methodLink "RopeDanceModel" (377 : Nat) ({ cls := "RopeDanceModel", name := "calls", desc := "(III)Z" } : Jvm.MethodName) ∈ lw_g := xg (xin_8 (List.mem_of_getElem? (i := 3) rfl)) rfl
theorem wk_X12_isSlip : Cond.code ({ cls := "RopeDanceModel", name := "isSlip", desc := "(I)Z" } : Jvm.MethodName) prog_14_method_62_code (2 : Nat) (Option.some Jvm.ClassFile.FieldType.boolean) ∈ lw_g := xg (xin_8 (List.mem_of_getElem? (i := 57) rfl)) rfl
theorem MK_X12_isSlip : MK yX12_isSlip bX12_isSlip 2 (some .boolean) 1 := ⟨wn_X12, wk_X12_isSlip, ⟨by decide, by decide, by decide +kernel⟩, by decide⟩
theorem wi_X12_isSlip : Cond.instanceMethod ({ cls := "RopeDanceModel", name := "isSlip", desc := "(I)Z" } : Jvm.MethodName) ∈ lw_g := xg (xin_8 (List.mem_of_getElem? (i := 56) rfl)) rfl
theorem we_X12_isSlip : Cond.selects "RopeDanceModel" yX12_isSlip yX12_isSlip ∈ lw_g := xg (xip_6 (List.mem_of_getElem? (i := 9) rfl)) rfl
theorem wm_X12_374 : Cond.methodLink "RopeDanceModel" (374 : Nat) ({ cls := "RopeDanceModel", name := "isSlip", desc := "(I)Z" } : Jvm.MethodName) ∈ lw_g := xg (xin_8 (List.mem_of_getElem? (i := 54) rfl)) rfl
theorem wk_X12_paysOf : Cond.code ({ cls := "RopeDanceModel", name := "paysOf", desc := "(I)I" } : Jvm.MethodName) prog_14_method_59_code (2 : Nat) (Option.some Jvm.ClassFile.FieldType.int) ∈ lw_g := xg (xin_7 (List.mem_of_getElem? (i := 206) rfl)) rfl
theorem MK_X12_paysOf : MK yX12_paysOf bX12_paysOf 2 (some .int) 1 := ⟨wn_X12, wk_X12_paysOf, ⟨by decide, by decide, by decide +kernel⟩, by decide⟩
theorem wi_X12_paysOf : Cond.instanceMethod ({ cls := "RopeDanceModel", name := "paysOf", desc := "(I)I" } : Jvm.MethodName) ∈ lw_g := xg (xin_7 (List.mem_of_getElem? (i := 205) rfl)) rfl
theorem we_X12_paysOf : Cond.selects "RopeDanceModel" yX12_paysOf yX12_paysOf ∈ lw_g := xg (xip_5 (List.mem_of_getElem? (i := 10) rfl)) rfl
theorem wm_X12_383 : Cond.methodLink "RopeDanceModel" (383 : Nat) ({ cls := "RopeDanceModel", name := "paysOf", desc := "(I)I" } : Jvm.MethodName) ∈ lw_g := xg (xin_7 (List.mem_of_getElem? (i := 203) rfl)) rfl
theorem wk_X12_dances : Cond.code ({ cls := "RopeDanceModel", name := "dances", desc := "(I)V" } : Jvm.MethodName) prog_14_method_63_code (5 : Nat) (Option.none : Option Jvm.ClassFile.FieldType) ∈ lw_g := xg (xin_8 (List.mem_of_getElem? (i := 41) rfl)) rfl
theorem MK_X12_dances : MK yX12_dances bX12_dances 5 none 1 := ⟨wn_X12, wk_X12_dances, ⟨by decide, by decide, by decide +kernel⟩, by decide⟩
theorem wi_X12_dances : Cond.instanceMethod ({ cls := "RopeDanceModel", name := "dances", desc := "(I)V" } : Jvm.MethodName) ∈ lw_g := xg (xin_8 (List.mem_of_getElem? (i := 40) rfl)) rfl
theorem we_X12_dances : Cond.selects "RopeDanceModel" yX12_dances yX12_dances ∈ lw_g := xg (xip_6 (List.mem_of_getElem? (i := 6) rfl)) rfl
theorem wm_X12_386 : Cond.methodLink "RopeDanceModel" (386 : Nat) ({ cls := "RopeDanceModel", name := "dances", desc := "(I)V" } : Jvm.MethodName) ∈ lw_g := xg (xin_8 (List.mem_of_getElem? (i := 38) rfl)) rfl
theorem wk_X12_minuteGoes : Cond.code ({ cls := "RopeDanceModel", name := "minuteGoes", desc := "()V" } : Jvm.MethodName) prog_14_method_64_code (3 : Nat) (Option.none : Option Jvm.ClassFile.FieldType) ∈ lw_g := xg (xin_8 (List.mem_of_getElem? (i := 37) rfl)) rfl
theorem MK_X12_minuteGoes : MK yX12_minuteGoes bX12_minuteGoes 3 none 0 := ⟨wn_X12, wk_X12_minuteGoes, ⟨by decide, by decide, by decide +kernel⟩, by decide⟩
theorem wi_X12_minuteGoes : Cond.instanceMethod ({ cls := "RopeDanceModel", name := "minuteGoes", desc := "()V" } : Jvm.MethodName) ∈ lw_g := xg (xin_8 (List.mem_of_getElem? (i := 36) rfl)) rfl
theorem we_X12_minuteGoes : Cond.selects "RopeDanceModel" yX12_minuteGoes yX12_minuteGoes ∈ lw_g := xg (xip_6 (List.mem_of_getElem? (i := 5) rfl)) rfl
theorem wm_X12_389 : Cond.methodLink "RopeDanceModel" (389 : Nat) ({ cls := "RopeDanceModel", name := "minuteGoes", desc := "()V" } : Jvm.MethodName) ∈ lw_g := xg (xin_8 (List.mem_of_getElem? (i := 34) rfl)) rfl
theorem wf_X12_107 : Cond.fieldLink "RopeDanceModel" (107 : Nat) "RopeDanceModel" "leastBy" "[I" ∈ lw_g := xg (xin_6 (List.mem_of_getElem? (i := 123) rfl)) rfl
theorem wk_X12_restOf : Cond.code ({ cls := "RopeDanceModel", name := "restOf", desc := "(II)I" } : Jvm.MethodName) prog_14_method_67_code (3 : Nat) (Option.some Jvm.ClassFile.FieldType.int) ∈ lw_g := xg (xin_6 (List.mem_of_getElem? (i := 54) rfl)) rfl
theorem MK_X12_restOf : MK yX12_restOf bX12_restOf 3 (some .int) 2 := ⟨wn_X12, wk_X12_restOf, ⟨by decide, by decide, by decide +kernel⟩, by decide⟩
theorem ws_X12_restOf : Cond.static ({ cls := "RopeDanceModel", name := "restOf", desc := "(II)I" } : Jvm.MethodName) ∈ lw_g := xg (xin_6 (List.mem_of_getElem? (i := 53) rfl)) rfl
theorem wm_X12_392 : Cond.methodLink "RopeDanceModel" (392 : Nat) ({ cls := "RopeDanceModel", name := "restOf", desc := "(II)I" } : Jvm.MethodName) ∈ lw_g := xg (xin_6 (List.mem_of_getElem? (i := 52) rfl)) rfl
theorem wk_X12_leastWith : Cond.code ({ cls := "RopeDanceModel", name := "leastWith", desc := "(III)I" } : Jvm.MethodName) prog_14_method_66_code (4 : Nat) (Option.some Jvm.ClassFile.FieldType.int) ∈ lw_g := xg (xin_6 (List.mem_of_getElem? (i := 58) rfl)) rfl
theorem MK_X12_leastWith : MK yX12_leastWith bX12_leastWith 4 (some .int) 3 := ⟨wn_X12, wk_X12_leastWith, ⟨by decide, by decide, by decide +kernel⟩, by decide⟩
theorem wi_X12_leastWith : Cond.instanceMethod ({ cls := "RopeDanceModel", name := "leastWith", desc := "(III)I" } : Jvm.MethodName) ∈ lw_g := xg (xin_6 (List.mem_of_getElem? (i := 57) rfl)) rfl
theorem we_X12_leastWith : Cond.selects "RopeDanceModel" yX12_leastWith yX12_leastWith ∈ lw_g := xg (xip_3 (List.mem_of_getElem? (i := 13) rfl)) rfl
theorem wm_X12_395 : Cond.methodLink "RopeDanceModel" (395 : Nat) ({ cls := "RopeDanceModel", name := "leastWith", desc := "(III)I" } : Jvm.MethodName) ∈ lw_g := xg (xin_6 (List.mem_of_getElem? (i := 55) rfl)) rfl
theorem wf_X12_110 : Cond.fieldLink "RopeDanceModel" (110 : Nat) "RopeDanceModel" "waysBy" "[I" ∈ lw_g := xg (xin_6 (List.mem_of_getElem? (i := 124) rfl)) rfl
theorem wk_X12_isTangle : Cond.code ({ cls := "RopeDanceModel", name := "isTangle", desc := "(II)Z" } : Jvm.MethodName) prog_14_method_39_code (2 : Nat) (Option.some Jvm.ClassFile.FieldType.boolean) ∈ lw_g := xg (xin_6 (List.mem_of_getElem? (i := 38) rfl)) rfl
theorem MK_X12_isTangle : MK yX12_isTangle bX12_isTangle 2 (some .boolean) 2 := ⟨wn_X12, wk_X12_isTangle, ⟨by decide, by decide, by decide +kernel⟩, by decide⟩
theorem ws_X12_isTangle : Cond.static ({ cls := "RopeDanceModel", name := "isTangle", desc := "(II)Z" } : Jvm.MethodName) ∈ lw_g := xg (xin_6 (List.mem_of_getElem? (i := 37) rfl)) rfl
theorem wm_X12_398 : Cond.methodLink "RopeDanceModel" (398 : Nat) ({ cls := "RopeDanceModel", name := "isTangle", desc := "(II)Z" } : Jvm.MethodName) ∈ lw_g := xg (xin_6 (List.mem_of_getElem? (i := 36) rfl)) rfl
theorem wk_X12_fillsOne : Cond.code ({ cls := "RopeDanceModel", name := "fillsOne", desc := "(II)V" } : Jvm.MethodName) prog_14_method_68_code (6 : Nat) (Option.none : Option Jvm.ClassFile.FieldType) ∈ lw_g := xg (xin_6 (List.mem_of_getElem? (i := 48) rfl)) rfl
theorem MK_X12_fillsOne : MK yX12_fillsOne bX12_fillsOne 6 none 2 := ⟨wn_X12, wk_X12_fillsOne, ⟨by decide, by decide, by decide +kernel⟩, by decide⟩
theorem wi_X12_fillsOne : Cond.instanceMethod ({ cls := "RopeDanceModel", name := "fillsOne", desc := "(II)V" } : Jvm.MethodName) ∈ lw_g := xg (xin_6 (List.mem_of_getElem? (i := 47) rfl)) rfl
theorem we_X12_fillsOne : Cond.selects "RopeDanceModel" yX12_fillsOne yX12_fillsOne ∈ lw_g := xg (xip_3 (List.mem_of_getElem? (i := 12) rfl)) rfl
theorem wm_X12_402 : Cond.methodLink "RopeDanceModel" (402 : Nat) ({ cls := "RopeDanceModel", name := "fillsOne", desc := "(II)V" } : Jvm.MethodName) ∈ lw_g := xg (xin_6 (List.mem_of_getElem? (i := 45) rfl)) rfl
theorem wk_X12_isSquare : Cond.code ({ cls := "RopeDanceModel", name := "isSquare", desc := "(I)Z" } : Jvm.MethodName) prog_14_method_48_code (2 : Nat) (Option.some Jvm.ClassFile.FieldType.boolean) ∈ lw_g := xg (xin_7 (List.mem_of_getElem? (i := 170) rfl)) rfl
theorem MK_X12_isSquare : MK yX12_isSquare bX12_isSquare 2 (some .boolean) 1 := ⟨wn_X12, wk_X12_isSquare, ⟨by decide, by decide, by decide +kernel⟩, by decide⟩
theorem wi_X12_isSquare : Cond.instanceMethod ({ cls := "RopeDanceModel", name := "isSquare", desc := "(I)Z" } : Jvm.MethodName) ∈ lw_g := xg (xin_7 (List.mem_of_getElem? (i := 169) rfl)) rfl
theorem we_X12_isSquare : Cond.selects "RopeDanceModel" yX12_isSquare yX12_isSquare ∈ lw_g := xg (xip_5 (List.mem_of_getElem? (i := 4) rfl)) rfl
theorem wm_X12_405 : Cond.methodLink "RopeDanceModel" (405 : Nat) ({ cls := "RopeDanceModel", name := "isSquare", desc := "(I)Z" } : Jvm.MethodName) ∈ lw_g := xg (xin_7 (List.mem_of_getElem? (i := 167) rfl)) rfl
theorem wk_X12_copies : Cond.code ({ cls := "RopeDanceModel", name := "copies", desc := "()V" } : Jvm.MethodName) prog_14_method_52_code (2 : Nat) (Option.none : Option Jvm.ClassFile.FieldType) ∈ lw_g := xg (xin_7 (List.mem_of_getElem? (i := 177) rfl)) rfl
theorem MK_X12_copies : MK yX12_copies bX12_copies 2 none 0 := ⟨wn_X12, wk_X12_copies, ⟨by decide, by decide, by decide +kernel⟩, by decide⟩
theorem wi_X12_copies : Cond.instanceMethod ({ cls := "RopeDanceModel", name := "copies", desc := "()V" } : Jvm.MethodName) ∈ lw_g := xg (xin_7 (List.mem_of_getElem? (i := 176) rfl)) rfl
theorem we_X12_copies : Cond.selects "RopeDanceModel" yX12_copies yX12_copies ∈ lw_g := xg (xip_5 (List.mem_of_getElem? (i := 5) rfl)) rfl
theorem wm_X12_408 : Cond.methodLink "RopeDanceModel" (408 : Nat) ({ cls := "RopeDanceModel", name := "copies", desc := "()V" } : Jvm.MethodName) ∈ lw_g := xg (xin_7 (List.mem_of_getElem? (i := 174) rfl)) rfl
theorem wk_X12_isFigure : Cond.code ({ cls := "RopeDanceModel", name := "isFigure", desc := "(I)Z" } : Jvm.MethodName) prog_14_method_49_code (2 : Nat) (Option.some Jvm.ClassFile.FieldType.boolean) ∈ lw_g := xg (xin_7 (List.mem_of_getElem? (i := 218) rfl)) rfl
theorem MK_X12_isFigure : MK yX12_isFigure bX12_isFigure 2 (some .boolean) 1 := ⟨wn_X12, wk_X12_isFigure, ⟨by decide, by decide, by decide +kernel⟩, by decide⟩
theorem wi_X12_isFigure : Cond.instanceMethod ({ cls := "RopeDanceModel", name := "isFigure", desc := "(I)Z" } : Jvm.MethodName) ∈ lw_g := xg (xin_7 (List.mem_of_getElem? (i := 217) rfl)) rfl
theorem we_X12_isFigure : Cond.selects "RopeDanceModel" yX12_isFigure yX12_isFigure ∈ lw_g := xg (xip_5 (List.mem_of_getElem? (i := 12) rfl)) rfl
theorem wm_X12_411 : Cond.methodLink "RopeDanceModel" (411 : Nat) ({ cls := "RopeDanceModel", name := "isFigure", desc := "(I)Z" } : Jvm.MethodName) ∈ lw_g := xg (xin_7 (List.mem_of_getElem? (i := 215) rfl)) rfl
theorem wf_X12_113 : Cond.fieldLink "RopeDanceModel" (113 : Nat) "RopeDanceModel" "history" "[I" ∈ lw_g := xg (xin_6 (List.mem_of_getElem? (i := 126) rfl)) rfl
theorem wk_X12_records : Cond.code ({ cls := "RopeDanceModel", name := "records", desc := "()V" } : Jvm.MethodName) prog_14_method_73_code (2 : Nat) (Option.none : Option Jvm.ClassFile.FieldType) ∈ lw_g := xg (xin_8 (List.mem_of_getElem? (i := 10) rfl)) rfl
theorem MK_X12_records : MK yX12_records bX12_records 2 none 0 := ⟨wn_X12, wk_X12_records, ⟨by decide, by decide, by decide +kernel⟩, by decide⟩
theorem wi_X12_records : Cond.instanceMethod ({ cls := "RopeDanceModel", name := "records", desc := "()V" } : Jvm.MethodName) ∈ lw_g := xg (xin_8 (List.mem_of_getElem? (i := 9) rfl)) rfl
theorem we_X12_records : Cond.selects "RopeDanceModel" yX12_records yX12_records ∈ lw_g := xg (xip_6 (List.mem_of_getElem? (i := 2) rfl)) rfl
theorem wm_X12_414 : Cond.methodLink "RopeDanceModel" (414 : Nat) ({ cls := "RopeDanceModel", name := "records", desc := "()V" } : Jvm.MethodName) ∈ lw_g := xg (xin_8 (List.mem_of_getElem? (i := 7) rfl)) rfl
theorem wk_X12_becomes : Cond.code ({ cls := "RopeDanceModel", name := "becomes", desc := "(II)Z" } : Jvm.MethodName) prog_14_method_74_code (3 : Nat) (Option.some Jvm.ClassFile.FieldType.boolean) ∈ lw_g := xg (xin_8 (List.mem_of_getElem? (i := 18) rfl)) rfl
theorem MK_X12_becomes : MK yX12_becomes bX12_becomes 3 (some .boolean) 2 := ⟨wn_X12, wk_X12_becomes, ⟨by decide, by decide, by decide +kernel⟩, by decide⟩
theorem wi_X12_becomes : Cond.instanceMethod ({ cls := "RopeDanceModel", name := "becomes", desc := "(II)Z" } : Jvm.MethodName) ∈ lw_g := xg (xin_8 (List.mem_of_getElem? (i := 17) rfl)) rfl
theorem we_X12_becomes : Cond.selects "RopeDanceModel" yX12_becomes yX12_becomes ∈ lw_g := xg (xip_6 (List.mem_of_getElem? (i := 3) rfl)) rfl
theorem wm_X12_417 : Cond.methodLink "RopeDanceModel" (417 : Nat) ({ cls := "RopeDanceModel", name := "becomes", desc := "(II)Z" } : Jvm.MethodName) ∈ lw_g := xg (xin_8 (List.mem_of_getElem? (i := 15) rfl)) rfl
theorem wk_X12_isLong : Cond.code ({ cls := "RopeDanceModel", name := "isLong", desc := "(I)Z" } : Jvm.MethodName) prog_14_method_78_code (1 : Nat) (Option.some Jvm.ClassFile.FieldType.boolean) ∈ lw_g := xg (xin_8 (List.mem_of_getElem? (i := 29) rfl)) rfl
theorem MK_X12_isLong : MK yX12_isLong bX12_isLong 1 (some .boolean) 1 := ⟨wn_X12, wk_X12_isLong, ⟨by decide, by decide, by decide +kernel⟩, by decide⟩
theorem ws_X12_isLong : Cond.static ({ cls := "RopeDanceModel", name := "isLong", desc := "(I)Z" } : Jvm.MethodName) ∈ lw_g := xg (xin_8 (List.mem_of_getElem? (i := 28) rfl)) rfl
theorem wm_X12_420 : Cond.methodLink "RopeDanceModel" (420 : Nat) ({ cls := "RopeDanceModel", name := "isLong", desc := "(I)Z" } : Jvm.MethodName) ∈ lw_g := xg (xin_8 (List.mem_of_getElem? (i := 27) rfl)) rfl
theorem wk_X12_goes : Cond.code ({ cls := "RopeDanceModel", name := "goes", desc := "(I)V" } : Jvm.MethodName) prog_14_method_65_code (3 : Nat) (Option.none : Option Jvm.ClassFile.FieldType) ∈ lw_g := xg (xin_8 (List.mem_of_getElem? (i := 33) rfl)) rfl
theorem MK_X12_goes : MK yX12_goes bX12_goes 3 none 1 := ⟨wn_X12, wk_X12_goes, ⟨by decide, by decide, by decide +kernel⟩, by decide⟩
theorem wi_X12_goes : Cond.instanceMethod ({ cls := "RopeDanceModel", name := "goes", desc := "(I)V" } : Jvm.MethodName) ∈ lw_g := xg (xin_8 (List.mem_of_getElem? (i := 32) rfl)) rfl
theorem we_X12_goes : Cond.selects "RopeDanceModel" yX12_goes yX12_goes ∈ lw_g := xg (xip_6 (List.mem_of_getElem? (i := 4) rfl)) rfl
theorem wm_X12_423 : Cond.methodLink "RopeDanceModel" (423 : Nat) ({ cls := "RopeDanceModel", name := "goes", desc := "(I)V" } : Jvm.MethodName) ∈ lw_g := xg (xin_8 (List.mem_of_getElem? (i := 30) rfl)) rfl
theorem wk_X12_restAt : Cond.code ({ cls := "RopeDanceModel", name := "restAt", desc := "(I)I" } : Jvm.MethodName) prog_14_method_83_code (5 : Nat) (Option.some Jvm.ClassFile.FieldType.int) ∈ lw_g := xg (xin_8 (List.mem_of_getElem? (i := 78) rfl)) rfl
theorem MK_X12_restAt : MK yX12_restAt bX12_restAt 5 (some .int) 1 := ⟨wn_X12, wk_X12_restAt, ⟨by decide, by decide, by decide +kernel⟩, by decide⟩
theorem wi_X12_restAt : Cond.instanceMethod ({ cls := "RopeDanceModel", name := "restAt", desc := "(I)I" } : Jvm.MethodName) ∈ lw_g := xg (xin_8 (List.mem_of_getElem? (i := 77) rfl)) rfl
theorem we_X12_restAt : Cond.selects "RopeDanceModel" yX12_restAt yX12_restAt ∈ lw_g := xg (xip_6 (List.mem_of_getElem? (i := 10) rfl)) rfl
theorem wm_X12_426 : Cond.methodLink "RopeDanceModel" (426 : Nat) ({ cls := "RopeDanceModel", name := "restAt", desc := "(I)I" } : Jvm.MethodName) ∈ lw_g := xg (xin_8 (List.mem_of_getElem? (i := 75) rfl)) rfl
theorem wf_X12_116 : Cond.fieldLink "RopeDanceModel" (116 : Nat) "RopeDanceModel" "farBy" "[I" ∈ lw_g := xg (xin_6 (List.mem_of_getElem? (i := 127) rfl)) rfl
theorem wf_X12_125 : Cond.fieldLink "RopeDanceModel" (125 : Nat) "RopeDanceModel" "line" "[I" ∈ lw_g := xg (xin_6 (List.mem_of_getElem? (i := 130) rfl)) rfl
theorem wf_X12_429 : Cond.fieldLink "RopeDanceModel" (429 : Nat) "RopeDanceModel" "lineMany" "I" ∈ lw_g := xg (xin_6 (List.mem_of_getElem? (i := 131) rfl)) rfl
theorem wf_X12_119 : Cond.fieldLink "RopeDanceModel" (119 : Nat) "RopeDanceModel" "fromBy" "[I" ∈ lw_g := xg (xin_6 (List.mem_of_getElem? (i := 128) rfl)) rfl
theorem wf_X12_122 : Cond.fieldLink "RopeDanceModel" (122 : Nat) "RopeDanceModel" "figureBy" "[I" ∈ lw_g := xg (xin_6 (List.mem_of_getElem? (i := 129) rfl)) rfl
theorem wk_X12_goesThrough : Cond.code ({ cls := "RopeDanceModel", name := "goesThrough", desc := "(I)V" } : Jvm.MethodName) prog_14_method_85_code (5 : Nat) (Option.none : Option Jvm.ClassFile.FieldType) ∈ lw_g := xg (xin_8 (List.mem_of_getElem? (i := 90) rfl)) rfl
theorem MK_X12_goesThrough : MK yX12_goesThrough bX12_goesThrough 5 none 1 := ⟨wn_X12, wk_X12_goesThrough, ⟨by decide, by decide, by decide +kernel⟩, by decide⟩
theorem wi_X12_goesThrough : Cond.instanceMethod ({ cls := "RopeDanceModel", name := "goesThrough", desc := "(I)V" } : Jvm.MethodName) ∈ lw_g := xg (xin_8 (List.mem_of_getElem? (i := 89) rfl)) rfl
theorem we_X12_goesThrough : Cond.selects "RopeDanceModel" yX12_goesThrough yX12_goesThrough ∈ lw_g := xg (xip_6 (List.mem_of_getElem? (i := 12) rfl)) rfl
theorem wm_X12_432 : Cond.methodLink "RopeDanceModel" (432 : Nat) ({ cls := "RopeDanceModel", name := "goesThrough", desc := "(I)V" } : Jvm.MethodName) ∈ lw_g := xg (xin_8 (List.mem_of_getElem? (i := 87) rfl)) rfl
theorem wk_X12_planOf : Cond.code ({ cls := "RopeDanceModel", name := "planOf", desc := "(III)I" } : Jvm.MethodName) prog_14_method_86_code (5 : Nat) (Option.some Jvm.ClassFile.FieldType.int) ∈ lw_g := xg (xin_8 (List.mem_of_getElem? (i := 86) rfl)) rfl
theorem MK_X12_planOf : MK yX12_planOf bX12_planOf 5 (some .int) 3 := ⟨wn_X12, wk_X12_planOf, ⟨by decide, by decide, by decide +kernel⟩, by decide⟩
theorem wi_X12_planOf : Cond.instanceMethod ({ cls := "RopeDanceModel", name := "planOf", desc := "(III)I" } : Jvm.MethodName) ∈ lw_g := xg (xin_8 (List.mem_of_getElem? (i := 85) rfl)) rfl
theorem we_X12_planOf : Cond.selects "RopeDanceModel" yX12_planOf yX12_planOf ∈ lw_g := xg (xip_6 (List.mem_of_getElem? (i := 11) rfl)) rfl
theorem wm_X12_435 : Cond.methodLink "RopeDanceModel" (435 : Nat) ({ cls := "RopeDanceModel", name := "planOf", desc := "(III)I" } : Jvm.MethodName) ∈ lw_g := xg (xin_8 (List.mem_of_getElem? (i := 83) rfl)) rfl
theorem wk_X12_closedP : Cond.code ({ cls := "RopeDanceModel", name := "closedP", desc := "(I)I" } : Jvm.MethodName) prog_14_method_90_code (2 : Nat) (Option.some Jvm.ClassFile.FieldType.int) ∈ lw_g := xg (xin_8 (List.mem_of_getElem? (i := 106) rfl)) rfl
theorem MK_X12_closedP : MK yX12_closedP bX12_closedP 2 (some .int) 1 := ⟨wn_X12, wk_X12_closedP, ⟨by decide, by decide, by decide +kernel⟩, by decide⟩
theorem wi_X12_closedP : Cond.instanceMethod ({ cls := "RopeDanceModel", name := "closedP", desc := "(I)I" } : Jvm.MethodName) ∈ lw_g := xg (xin_8 (List.mem_of_getElem? (i := 105) rfl)) rfl
theorem we_X12_closedP : Cond.selects "RopeDanceModel" yX12_closedP yX12_closedP ∈ lw_g := xg (xip_6 (List.mem_of_getElem? (i := 13) rfl)) rfl
theorem wm_X12_438 : Cond.methodLink "RopeDanceModel" (438 : Nat) ({ cls := "RopeDanceModel", name := "closedP", desc := "(I)I" } : Jvm.MethodName) ∈ lw_g := xg (xin_8 (List.mem_of_getElem? (i := 103) rfl)) rfl
theorem wk_X12_closedQ : Cond.code ({ cls := "RopeDanceModel", name := "closedQ", desc := "(I)I" } : Jvm.MethodName) prog_14_method_91_code (4 : Nat) (Option.some Jvm.ClassFile.FieldType.int) ∈ lw_g := xg (xin_8 (List.mem_of_getElem? (i := 110) rfl)) rfl
theorem MK_X12_closedQ : MK yX12_closedQ bX12_closedQ 4 (some .int) 1 := ⟨wn_X12, wk_X12_closedQ, ⟨by decide, by decide, by decide +kernel⟩, by decide⟩
theorem wi_X12_closedQ : Cond.instanceMethod ({ cls := "RopeDanceModel", name := "closedQ", desc := "(I)I" } : Jvm.MethodName) ∈ lw_g := xg (xin_8 (List.mem_of_getElem? (i := 109) rfl)) rfl
theorem we_X12_closedQ : Cond.selects "RopeDanceModel" yX12_closedQ yX12_closedQ ∈ lw_g := xg (xip_6 (List.mem_of_getElem? (i := 14) rfl)) rfl
theorem wm_X12_441 : Cond.methodLink "RopeDanceModel" (441 : Nat) ({ cls := "RopeDanceModel", name := "closedQ", desc := "(I)I" } : Jvm.MethodName) ∈ lw_g := xg (xin_8 (List.mem_of_getElem? (i := 107) rfl)) rfl
theorem wf_X12_444 : Cond.fieldLink "RopeDanceModel" (444 : Nat) "RopeDanceModel" "tableA" "I" ∈ lw_g := xg (xin_6 (List.mem_of_getElem? (i := 132) rfl)) rfl
theorem wf_X12_447 : Cond.fieldLink "RopeDanceModel" (447 : Nat) "RopeDanceModel" "tableB" "I" ∈ lw_g := xg (xin_6 (List.mem_of_getElem? (i := 133) rfl)) rfl
theorem wf_X12_450 : Cond.fieldLink "RopeDanceModel" (450 : Nat) "RopeDanceModel" "tableC" "I" ∈ lw_g := xg (xin_6 (List.mem_of_getElem? (i := 134) rfl)) rfl
theorem wf_X12_453 : Cond.fieldLink "RopeDanceModel" (453 : Nat) "RopeDanceModel" "tableD" "I" ∈ lw_g := xg (xin_6 (List.mem_of_getElem? (i := 135) rfl)) rfl
theorem wk_X12_noTable : Cond.code ({ cls := "RopeDanceModel", name := "noTable", desc := "()V" } : Jvm.MethodName) prog_14_method_96_code (1 : Nat) (Option.none : Option Jvm.ClassFile.FieldType) ∈ lw_g := xg (xin_8 (List.mem_of_getElem? (i := 135) rfl)) rfl
theorem MK_X12_noTable : MK yX12_noTable bX12_noTable 1 none 0 := ⟨wn_X12, wk_X12_noTable, ⟨by decide, by decide, by decide +kernel⟩, by decide⟩
theorem wi_X12_noTable : Cond.instanceMethod ({ cls := "RopeDanceModel", name := "noTable", desc := "()V" } : Jvm.MethodName) ∈ lw_g := xg (xin_8 (List.mem_of_getElem? (i := 134) rfl)) rfl
theorem we_X12_noTable : Cond.selects "RopeDanceModel" yX12_noTable yX12_noTable ∈ lw_g := xg (xip_7 (List.mem_of_getElem? (i := 0) rfl)) rfl
theorem wm_X12_456 : Cond.methodLink "RopeDanceModel" (456 : Nat) ({ cls := "RopeDanceModel", name := "noTable", desc := "()V" } : Jvm.MethodName) ∈ lw_g := xg (xin_8 (List.mem_of_getElem? (i := 132) rfl)) rfl
theorem wk_X12_tablesOn : Cond.code ({ cls := "RopeDanceModel", name := "tablesOn", desc := "(I)V" } : Jvm.MethodName) prog_14_method_97_code (6 : Nat) (Option.none : Option Jvm.ClassFile.FieldType) ∈ lw_g := xg (xin_8 (List.mem_of_getElem? (i := 139) rfl)) rfl
theorem MK_X12_tablesOn : MK yX12_tablesOn bX12_tablesOn 6 none 1 := ⟨wn_X12, wk_X12_tablesOn, ⟨by decide, by decide, by decide +kernel⟩, by decide⟩
theorem wi_X12_tablesOn : Cond.instanceMethod ({ cls := "RopeDanceModel", name := "tablesOn", desc := "(I)V" } : Jvm.MethodName) ∈ lw_g := xg (xin_8 (List.mem_of_getElem? (i := 138) rfl)) rfl
theorem we_X12_tablesOn : Cond.selects "RopeDanceModel" yX12_tablesOn yX12_tablesOn ∈ lw_g := xg (xip_7 (List.mem_of_getElem? (i := 1) rfl)) rfl
theorem wm_X12_459 : Cond.methodLink "RopeDanceModel" (459 : Nat) ({ cls := "RopeDanceModel", name := "tablesOn", desc := "(I)V" } : Jvm.MethodName) ∈ lw_g := xg (xin_8 (List.mem_of_getElem? (i := 136) rfl)) rfl
theorem wk_X12_tableOf : Cond.code ({ cls := "RopeDanceModel", name := "tableOf", desc := "(I)V" } : Jvm.MethodName) prog_14_method_99_code (2 : Nat) (Option.none : Option Jvm.ClassFile.FieldType) ∈ lw_g := xg (xin_8 (List.mem_of_getElem? (i := 131) rfl)) rfl
theorem MK_X12_tableOf : MK yX12_tableOf bX12_tableOf 2 none 1 := ⟨wn_X12, wk_X12_tableOf, ⟨by decide, by decide, by decide +kernel⟩, by decide⟩
theorem wi_X12_tableOf : Cond.instanceMethod ({ cls := "RopeDanceModel", name := "tableOf", desc := "(I)V" } : Jvm.MethodName) ∈ lw_g := xg (xin_8 (List.mem_of_getElem? (i := 130) rfl)) rfl
theorem we_X12_tableOf : Cond.selects "RopeDanceModel" yX12_tableOf yX12_tableOf ∈ lw_g := xg (xip_6 (List.mem_of_getElem? (i := 15) rfl)) rfl
theorem wm_X12_463 : Cond.methodLink "RopeDanceModel" (463 : Nat) ({ cls := "RopeDanceModel", name := "tableOf", desc := "(I)V" } : Jvm.MethodName) ∈ lw_g := xg (xin_8 (List.mem_of_getElem? (i := 128) rfl)) rfl
theorem wk_X12_signsTable : Cond.code ({ cls := "RopeDanceModel", name := "signsTable", desc := "()V" } : Jvm.MethodName) prog_14_method_98_code (2 : Nat) (Option.none : Option Jvm.ClassFile.FieldType) ∈ lw_g := xg (xin_8 (List.mem_of_getElem? (i := 143) rfl)) rfl
theorem MK_X12_signsTable : MK yX12_signsTable bX12_signsTable 2 none 0 := ⟨wn_X12, wk_X12_signsTable, ⟨by decide, by decide, by decide +kernel⟩, by decide⟩
theorem wi_X12_signsTable : Cond.instanceMethod ({ cls := "RopeDanceModel", name := "signsTable", desc := "()V" } : Jvm.MethodName) ∈ lw_g := xg (xin_8 (List.mem_of_getElem? (i := 142) rfl)) rfl
theorem we_X12_signsTable : Cond.selects "RopeDanceModel" yX12_signsTable yX12_signsTable ∈ lw_g := xg (xip_7 (List.mem_of_getElem? (i := 2) rfl)) rfl
theorem wm_X12_466 : Cond.methodLink "RopeDanceModel" (466 : Nat) ({ cls := "RopeDanceModel", name := "signsTable", desc := "()V" } : Jvm.MethodName) ∈ lw_g := xg (xin_8 (List.mem_of_getElem? (i := 140) rfl)) rfl
theorem wc_X12_462 : Cond.constant "RopeDanceModel" (462 : Nat) (-1000000000 : Int32) ∈ lw_g := xg (xin_8 (List.mem_of_getElem? (i := 127) rfl)) rfl
theorem wk_X12_isNoTable : Cond.code ({ cls := "RopeDanceModel", name := "isNoTable", desc := "()Z" } : Jvm.MethodName) prog_14_method_100_code (1 : Nat) (Option.some Jvm.ClassFile.FieldType.boolean) ∈ lw_g := xg (xin_8 (List.mem_of_getElem? (i := 151) rfl)) rfl
theorem MK_X12_isNoTable : MK yX12_isNoTable bX12_isNoTable 1 (some .boolean) 0 := ⟨wn_X12, wk_X12_isNoTable, ⟨by decide, by decide, by decide +kernel⟩, by decide⟩
theorem wi_X12_isNoTable : Cond.instanceMethod ({ cls := "RopeDanceModel", name := "isNoTable", desc := "()Z" } : Jvm.MethodName) ∈ lw_g := xg (xin_8 (List.mem_of_getElem? (i := 150) rfl)) rfl
theorem we_X12_isNoTable : Cond.selects "RopeDanceModel" yX12_isNoTable yX12_isNoTable ∈ lw_g := xg (xip_7 (List.mem_of_getElem? (i := 3) rfl)) rfl
theorem wm_X12_469 : Cond.methodLink "RopeDanceModel" (469 : Nat) ({ cls := "RopeDanceModel", name := "isNoTable", desc := "()Z" } : Jvm.MethodName) ∈ lw_g := xg (xin_8 (List.mem_of_getElem? (i := 148) rfl)) rfl
theorem wf_X12_473 : Cond.fieldLink "RopeDanceModel" (473 : Nat) "RopeDanceModel" "mod" "I" ∈ lw_g := xg (xin_6 (List.mem_of_getElem? (i := 136) rfl)) rfl
theorem wf_X12_476 : Cond.fieldLink "RopeDanceModel" (476 : Nat) "RopeDanceModel" "restA" "I" ∈ lw_g := xg (xin_6 (List.mem_of_getElem? (i := 137) rfl)) rfl
theorem wf_X12_479 : Cond.fieldLink "RopeDanceModel" (479 : Nat) "RopeDanceModel" "restB" "I" ∈ lw_g := xg (xin_6 (List.mem_of_getElem? (i := 138) rfl)) rfl
theorem wf_X12_482 : Cond.fieldLink "RopeDanceModel" (482 : Nat) "RopeDanceModel" "restC" "I" ∈ lw_g := xg (xin_6 (List.mem_of_getElem? (i := 139) rfl)) rfl
theorem wf_X12_485 : Cond.fieldLink "RopeDanceModel" (485 : Nat) "RopeDanceModel" "restD" "I" ∈ lw_g := xg (xin_6 (List.mem_of_getElem? (i := 140) rfl)) rfl
theorem wk_X12_isBase : Cond.code ({ cls := "RopeDanceModel", name := "isBase", desc := "(I)Z" } : Jvm.MethodName) prog_14_method_106_code (1 : Nat) (Option.some Jvm.ClassFile.FieldType.boolean) ∈ lw_g := xg (xin_8 (List.mem_of_getElem? (i := 158) rfl)) rfl
theorem MK_X12_isBase : MK yX12_isBase bX12_isBase 1 (some .boolean) 1 := ⟨wn_X12, wk_X12_isBase, ⟨by decide, by decide, by decide +kernel⟩, by decide⟩
theorem ws_X12_isBase : Cond.static ({ cls := "RopeDanceModel", name := "isBase", desc := "(I)Z" } : Jvm.MethodName) ∈ lw_g := xg (xin_8 (List.mem_of_getElem? (i := 157) rfl)) rfl
theorem wm_X12_488 : Cond.methodLink "RopeDanceModel" (488 : Nat) ({ cls := "RopeDanceModel", name := "isBase", desc := "(I)Z" } : Jvm.MethodName) ∈ lw_g := xg (xin_8 (List.mem_of_getElem? (i := 156) rfl)) rfl
theorem wk_X12_restsBy : Cond.code ({ cls := "RopeDanceModel", name := "restsBy", desc := "(I)V" } : Jvm.MethodName) prog_14_method_103_code (2 : Nat) (Option.none : Option Jvm.ClassFile.FieldType) ∈ lw_g := xg (xin_8 (List.mem_of_getElem? (i := 162) rfl)) rfl
theorem MK_X12_restsBy : MK yX12_restsBy bX12_restsBy 2 none 1 := ⟨wn_X12, wk_X12_restsBy, ⟨by decide, by decide, by decide +kernel⟩, by decide⟩
theorem wi_X12_restsBy : Cond.instanceMethod ({ cls := "RopeDanceModel", name := "restsBy", desc := "(I)V" } : Jvm.MethodName) ∈ lw_g := xg (xin_8 (List.mem_of_getElem? (i := 161) rfl)) rfl
theorem we_X12_restsBy : Cond.selects "RopeDanceModel" yX12_restsBy yX12_restsBy ∈ lw_g := xg (xip_7 (List.mem_of_getElem? (i := 4) rfl)) rfl
theorem wm_X12_491 : Cond.methodLink "RopeDanceModel" (491 : Nat) ({ cls := "RopeDanceModel", name := "restsBy", desc := "(I)V" } : Jvm.MethodName) ∈ lw_g := xg (xin_8 (List.mem_of_getElem? (i := 159) rfl)) rfl
theorem wk_X12_putsTogether : Cond.code ({ cls := "RopeDanceModel", name := "putsTogether", desc := "()V" } : Jvm.MethodName) prog_14_method_104_code (5 : Nat) (Option.none : Option Jvm.ClassFile.FieldType) ∈ lw_g := xg (xin_8 (List.mem_of_getElem? (i := 166) rfl)) rfl
theorem MK_X12_putsTogether : MK yX12_putsTogether bX12_putsTogether 5 none 0 := ⟨wn_X12, wk_X12_putsTogether, ⟨by decide, by decide, by decide +kernel⟩, by decide⟩
theorem wi_X12_putsTogether : Cond.instanceMethod ({ cls := "RopeDanceModel", name := "putsTogether", desc := "()V" } : Jvm.MethodName) ∈ lw_g := xg (xin_8 (List.mem_of_getElem? (i := 165) rfl)) rfl
theorem we_X12_putsTogether : Cond.selects "RopeDanceModel" yX12_putsTogether yX12_putsTogether ∈ lw_g := xg (xip_7 (List.mem_of_getElem? (i := 5) rfl)) rfl
theorem wm_X12_494 : Cond.methodLink "RopeDanceModel" (494 : Nat) ({ cls := "RopeDanceModel", name := "putsTogether", desc := "()V" } : Jvm.MethodName) ∈ lw_g := xg (xin_8 (List.mem_of_getElem? (i := 163) rfl)) rfl
theorem wc_X12_497 : Cond.constant "RopeDanceModel" (497 : Nat) (1000000000 : Int32) ∈ lw_g := xg (xin_8 (List.mem_of_getElem? (i := 171) rfl)) rfl
theorem wk_X12_doubles : Cond.code ({ cls := "RopeDanceModel", name := "doubles", desc := "()V" } : Jvm.MethodName) prog_14_method_105_code (5 : Nat) (Option.none : Option Jvm.ClassFile.FieldType) ∈ lw_g := xg (xin_8 (List.mem_of_getElem? (i := 175) rfl)) rfl
theorem MK_X12_doubles : MK yX12_doubles bX12_doubles 5 none 0 := ⟨wn_X12, wk_X12_doubles, ⟨by decide, by decide, by decide +kernel⟩, by decide⟩
theorem wi_X12_doubles : Cond.instanceMethod ({ cls := "RopeDanceModel", name := "doubles", desc := "()V" } : Jvm.MethodName) ∈ lw_g := xg (xin_8 (List.mem_of_getElem? (i := 174) rfl)) rfl
theorem we_X12_doubles : Cond.selects "RopeDanceModel" yX12_doubles yX12_doubles ∈ lw_g := xg (xip_7 (List.mem_of_getElem? (i := 6) rfl)) rfl
theorem wm_X12_498 : Cond.methodLink "RopeDanceModel" (498 : Nat) ({ cls := "RopeDanceModel", name := "doubles", desc := "()V" } : Jvm.MethodName) ∈ lw_g := xg (xin_8 (List.mem_of_getElem? (i := 172) rfl)) rfl
theorem wk_X12_doesStay : Cond.code ({ cls := "RopeDanceModel", name := "doesStay", desc := "(II)Z" } : Jvm.MethodName) prog_14_method_109_code (5 : Nat) (Option.some Jvm.ClassFile.FieldType.boolean) ∈ lw_g := xg (xin_8 (List.mem_of_getElem? (i := 183) rfl)) rfl
theorem MK_X12_doesStay : MK yX12_doesStay bX12_doesStay 5 (some .boolean) 2 := ⟨wn_X12, wk_X12_doesStay, ⟨by decide, by decide, by decide +kernel⟩, by decide⟩
theorem wi_X12_doesStay : Cond.instanceMethod ({ cls := "RopeDanceModel", name := "doesStay", desc := "(II)Z" } : Jvm.MethodName) ∈ lw_g := xg (xin_8 (List.mem_of_getElem? (i := 182) rfl)) rfl
theorem we_X12_doesStay : Cond.selects "RopeDanceModel" yX12_doesStay yX12_doesStay ∈ lw_g := xg (xip_7 (List.mem_of_getElem? (i := 7) rfl)) rfl
theorem wm_X12_501 : Cond.methodLink "RopeDanceModel" (501 : Nat) ({ cls := "RopeDanceModel", name := "doesStay", desc := "(II)Z" } : Jvm.MethodName) ∈ lw_g := xg (xin_8 (List.mem_of_getElem? (i := 180) rfl)) rfl
theorem wf_X12_128 : Cond.fieldLink "RopeDanceModel" (128 : Nat) "RopeDanceModel" "toldBehind" "[I" ∈ lw_g := xg (xin_6 (List.mem_of_getElem? (i := 142) rfl)) rfl
theorem wf_X12_131 : Cond.fieldLink "RopeDanceModel" (131 : Nat) "RopeDanceModel" "toldEnds" "[I" ∈ lw_g := xg (xin_6 (List.mem_of_getElem? (i := 143) rfl)) rfl
theorem wf_X12_134 : Cond.fieldLink "RopeDanceModel" (134 : Nat) "RopeDanceModel" "toldSo" "[Z" ∈ lw_g := xg (xin_6 (List.mem_of_getElem? (i := 144) rfl)) rfl
theorem wf_X12_137 : Cond.fieldLink "RopeDanceModel" (137 : Nat) "RopeDanceModel" "endsBy" "[I" ∈ lw_g := xg (xin_6 (List.mem_of_getElem? (i := 145) rfl)) rfl
theorem wf_X12_140 : Cond.fieldLink "RopeDanceModel" (140 : Nat) "RopeDanceModel" "digits" "[I" ∈ lw_g := xg (xin_6 (List.mem_of_getElem? (i := 146) rfl)) rfl
theorem wk_X12_isAsked : Cond.code ({ cls := "RopeDanceModel", name := "isAsked", desc := "(III)Z" } : Jvm.MethodName) prog_14_method_120_code (4 : Nat) (Option.some Jvm.ClassFile.FieldType.boolean) ∈ lw_g := xg (xin_8 (List.mem_of_getElem? (i := 219) rfl)) rfl
theorem MK_X12_isAsked : MK yX12_isAsked bX12_isAsked 4 (some .boolean) 3 := ⟨wn_X12, wk_X12_isAsked, ⟨by decide, by decide, by decide +kernel⟩, by decide⟩
theorem wi_X12_isAsked : Cond.instanceMethod ({ cls := "RopeDanceModel", name := "isAsked", desc := "(III)Z" } : Jvm.MethodName) ∈ lw_g := xg (xin_8 (List.mem_of_getElem? (i := 218) rfl)) rfl
theorem we_X12_isAsked : Cond.selects "RopeDanceModel" yX12_isAsked yX12_isAsked ∈ lw_g := xg (xip_7 (List.mem_of_getElem? (i := 8) rfl)) rfl
theorem wm_X12_504 : Cond.methodLink "RopeDanceModel" (504 : Nat) ({ cls := "RopeDanceModel", name := "isAsked", desc := "(III)Z" } : Jvm.MethodName) ∈ lw_g := xg (xin_8 (List.mem_of_getElem? (i := 216) rfl)) rfl
theorem wk_X12_rowsMany : Cond.code ({ cls := "RopeDanceModel", name := "rowsMany", desc := "(I)I" } : Jvm.MethodName) prog_14_method_118_code (4 : Nat) (Option.some Jvm.ClassFile.FieldType.int) ∈ lw_g := xg (xin_8 (List.mem_of_getElem? (i := 223) rfl)) rfl
theorem MK_X12_rowsMany : MK yX12_rowsMany bX12_rowsMany 4 (some .int) 1 := ⟨wn_X12, wk_X12_rowsMany, ⟨by decide, by decide, by decide +kernel⟩, by decide⟩
theorem wi_X12_rowsMany : Cond.instanceMethod ({ cls := "RopeDanceModel", name := "rowsMany", desc := "(I)I" } : Jvm.MethodName) ∈ lw_g := xg (xin_8 (List.mem_of_getElem? (i := 222) rfl)) rfl
theorem we_X12_rowsMany : Cond.selects "RopeDanceModel" yX12_rowsMany yX12_rowsMany ∈ lw_g := xg (xip_7 (List.mem_of_getElem? (i := 9) rfl)) rfl
theorem wm_X12_507 : Cond.methodLink "RopeDanceModel" (507 : Nat) ({ cls := "RopeDanceModel", name := "rowsMany", desc := "(I)I" } : Jvm.MethodName) ∈ lw_g := xg (xin_8 (List.mem_of_getElem? (i := 220) rfl)) rfl
theorem wk_X12_doesFit : Cond.code ({ cls := "RopeDanceModel", name := "doesFit", desc := "(IIII)Z" } : Jvm.MethodName) prog_14_method_119_code (8 : Nat) (Option.some Jvm.ClassFile.FieldType.boolean) ∈ lw_g := xg (xin_8 (List.mem_of_getElem? (i := 227) rfl)) rfl
theorem MK_X12_doesFit : MK yX12_doesFit bX12_doesFit 8 (some .boolean) 4 := ⟨wn_X12, wk_X12_doesFit, ⟨by decide, by decide, by decide +kernel⟩, by decide⟩
theorem wi_X12_doesFit : Cond.instanceMethod ({ cls := "RopeDanceModel", name := "doesFit", desc := "(IIII)Z" } : Jvm.MethodName) ∈ lw_g := xg (xin_8 (List.mem_of_getElem? (i := 226) rfl)) rfl
theorem we_X12_doesFit : Cond.selects "RopeDanceModel" yX12_doesFit yX12_doesFit ∈ lw_g := xg (xip_7 (List.mem_of_getElem? (i := 10) rfl)) rfl
theorem wm_X12_510 : Cond.methodLink "RopeDanceModel" (510 : Nat) ({ cls := "RopeDanceModel", name := "doesFit", desc := "(IIII)Z" } : Jvm.MethodName) ∈ lw_g := xg (xin_8 (List.mem_of_getElem? (i := 224) rfl)) rfl
theorem wf_X12_143 : Cond.fieldLink "RopeDanceModel" (143 : Nat) "RopeDanceModel" "manyBy" "[I" ∈ lw_g := xg (xin_6 (List.mem_of_getElem? (i := 147) rfl)) rfl
theorem wf_X12_149 : Cond.fieldLink "RopeDanceModel" (149 : Nat) "RopeDanceModel" "heldRows" "[I" ∈ lw_g := xg (xin_6 (List.mem_of_getElem? (i := 149) rfl)) rfl
theorem wk_X12_ofEnds : Cond.code ({ cls := "RopeDanceModel", name := "ofEnds", desc := "(I)I" } : Jvm.MethodName) prog_14_method_125_code (4 : Nat) (Option.some Jvm.ClassFile.FieldType.int) ∈ lw_g := xg (xin_9 (List.mem_of_getElem? (i := 7) rfl)) rfl
theorem MK_X12_ofEnds : MK yX12_ofEnds bX12_ofEnds 4 (some .int) 1 := ⟨wn_X12, wk_X12_ofEnds, ⟨by decide, by decide, by decide +kernel⟩, by decide⟩
theorem wi_X12_ofEnds : Cond.instanceMethod ({ cls := "RopeDanceModel", name := "ofEnds", desc := "(I)I" } : Jvm.MethodName) ∈ lw_g := xg (xin_9 (List.mem_of_getElem? (i := 6) rfl)) rfl
theorem we_X12_ofEnds : Cond.selects "RopeDanceModel" yX12_ofEnds yX12_ofEnds ∈ lw_g := xg (xip_7 (List.mem_of_getElem? (i := 11) rfl)) rfl
theorem wm_X12_514 : Cond.methodLink "RopeDanceModel" (514 : Nat) ({ cls := "RopeDanceModel", name := "ofEnds", desc := "(I)I" } : Jvm.MethodName) ∈ lw_g := xg (xin_9 (List.mem_of_getElem? (i := 4) rfl)) rfl
theorem wk_J0_indexOf_7cf53 : Cond.code ({ cls := "java/lang/String", name := "indexOf", desc := "(II)I" } : Jvm.MethodName) prog_17_method_80_code (3 : Nat) (Option.some Jvm.ClassFile.FieldType.int) ∈ lw_g := xg (xin_3 (List.mem_of_getElem? (i := 45) rfl)) rfl
theorem MK_J0_indexOf_7cf53 : MK yJ0_indexOf_7cf53 bJ0_indexOf_7cf53 3 (some .int) 2 := ⟨wn_J0, wk_J0_indexOf_7cf53, ⟨by decide, by decide, by decide +kernel⟩, by decide⟩
theorem wi_J0_indexOf_7cf53 : Cond.instanceMethod ({ cls := "java/lang/String", name := "indexOf", desc := "(II)I" } : Jvm.MethodName) ∈ lw_g := xg (xin_3 (List.mem_of_getElem? (i := 43) rfl)) rfl
theorem we_J0_indexOf_7cf53 : Cond.selects "java/lang/String" yJ0_indexOf_7cf53 yJ0_indexOf_7cf53 ∈ lw_g := xg (xin_3 (List.mem_of_getElem? (i := 44) rfl)) rfl
theorem wm_J0_633 : Cond.methodLink "java/lang/String" (633 : Nat) ({ cls := "java/lang/String", name := "indexOf", desc := "(II)I" } : Jvm.MethodName) ∈ lw_g := xg (xin_3 (List.mem_of_getElem? (i := 42) rfl)) rfl
theorem wf_J0_9 : Cond.fieldLink "java/lang/String" (9 : Nat) "java/lang/String" "value" "[B" ∈ lw_g := xg (xin_9 (List.mem_of_getElem? (i := 8) rfl)) rfl
theorem wk_J0_coder_7d493 : Cond.code ({ cls := "java/lang/String", name := "coder", desc := "()B" } : Jvm.MethodName) prog_17_method_152_code (1 : Nat) (Option.some Jvm.ClassFile.FieldType.byte) ∈ lw_g := xg (xin_2 (List.mem_of_getElem? (i := 229) rfl)) rfl
theorem MK_J0_coder_7d493 : MK yJ0_coder_7d493 bJ0_coder_7d493 1 (some .byte) 0 := ⟨wn_J0, wk_J0_coder_7d493, ⟨by decide, by decide, by decide +kernel⟩, by decide⟩
theorem wi_J0_coder_7d493 : Cond.instanceMethod ({ cls := "java/lang/String", name := "coder", desc := "()B" } : Jvm.MethodName) ∈ lw_g := xg (xin_2 (List.mem_of_getElem? (i := 227) rfl)) rfl
theorem we_J0_coder_7d493 : Cond.selects "java/lang/String" yJ0_coder_7d493 yJ0_coder_7d493 ∈ lw_g := xg (xin_2 (List.mem_of_getElem? (i := 228) rfl)) rfl
theorem wm_J0_335 : Cond.methodLink "java/lang/String" (335 : Nat) ({ cls := "java/lang/String", name := "coder", desc := "()B" } : Jvm.MethodName) ∈ lw_g := xg (xin_2 (List.mem_of_getElem? (i := 226) rfl)) rfl
theorem wk_J0_isLatin1_aae02 : Cond.code ({ cls := "java/lang/String", name := "isLatin1", desc := "()Z" } : Jvm.MethodName) prog_17_method_154_code (1 : Nat) (Option.some Jvm.ClassFile.FieldType.boolean) ∈ lw_g := xg (xin_2 (List.mem_of_getElem? (i := 239) rfl)) rfl
theorem MK_J0_isLatin1_aae02 : MK yJ0_isLatin1_aae02 bJ0_isLatin1_aae02 1 (some .boolean) 0 := ⟨wn_J0, wk_J0_isLatin1_aae02, ⟨by decide, by decide, by decide +kernel⟩, by decide⟩
theorem wi_J0_isLatin1_aae02 : Cond.instanceMethod ({ cls := "java/lang/String", name := "isLatin1", desc := "()Z" } : Jvm.MethodName) ∈ lw_g := xg (xin_2 (List.mem_of_getElem? (i := 237) rfl)) rfl
theorem we_J0_isLatin1_aae02 : Cond.selects "java/lang/String" yJ0_isLatin1_aae02 yJ0_isLatin1_aae02 ∈ lw_g := xg (xin_2 (List.mem_of_getElem? (i := 238) rfl)) rfl
theorem wm_J0_492 : Cond.methodLink "java/lang/String" (492 : Nat) ({ cls := "java/lang/String", name := "isLatin1", desc := "()Z" } : Jvm.MethodName) ∈ lw_g := xg (xin_2 (List.mem_of_getElem? (i := 236) rfl)) rfl
theorem wn_J1 : Cond.initialized "java/lang/StringLatin1" ∈ lw_g := xg (xin_1 (List.mem_of_getElem? (i := 13) rfl)) rfl
theorem wk_J1_charAt_3b067 : Cond.code ({ cls := "java/lang/StringLatin1", name := "charAt", desc := "([BI)C" } : Jvm.MethodName) prog_18_method_2_code (2 : Nat) (Option.some Jvm.ClassFile.FieldType.char) ∈ lw_g := xg (xin_3 (List.mem_of_getElem? (i := 2) rfl)) rfl
theorem MK_J1_charAt_3b067 : MK yJ1_charAt_3b067 bJ1_charAt_3b067 2 (some .char) 2 := ⟨wn_J1, wk_J1_charAt_3b067, ⟨by decide, by decide, by decide +kernel⟩, by decide⟩
theorem ws_J1_charAt_3b067 : Cond.static ({ cls := "java/lang/StringLatin1", name := "charAt", desc := "([BI)C" } : Jvm.MethodName) ∈ lw_g := xg (xin_3 (List.mem_of_getElem? (i := 1) rfl)) rfl
theorem wm_J0_495 : Cond.methodLink "java/lang/String" (495 : Nat) ({ cls := "java/lang/StringLatin1", name := "charAt", desc := "([BI)C" } : Jvm.MethodName) ∈ lw_g := xg (xin_3 (List.mem_of_getElem? (i := 0) rfl)) rfl
theorem wm_J0_505 : Cond.methodLink "java/lang/String" (505 : Nat) ({ cls := "java/lang/String", name := "length", desc := "()I" } : Jvm.MethodName) ∈ lw_g := xg (xin_3 (List.mem_of_getElem? (i := 46) rfl)) rfl
theorem wk_J1_indexOf_4cfef : Cond.code ({ cls := "java/lang/StringLatin1", name := "indexOf", desc := "([BIII)I" } : Jvm.MethodName) prog_18_method_22_code (4 : Nat) (Option.some Jvm.ClassFile.FieldType.int) ∈ lw_g := xg (xin_3 (List.mem_of_getElem? (i := 49) rfl)) rfl
theorem MK_J1_indexOf_4cfef : MK yJ1_indexOf_4cfef bJ1_indexOf_4cfef 4 (some .int) 4 := ⟨wn_J1, wk_J1_indexOf_4cfef, ⟨by decide, by decide, by decide +kernel⟩, by decide⟩
theorem ws_J1_indexOf_4cfef : Cond.static ({ cls := "java/lang/StringLatin1", name := "indexOf", desc := "([BIII)I" } : Jvm.MethodName) ∈ lw_g := xg (xin_3 (List.mem_of_getElem? (i := 48) rfl)) rfl
theorem wm_J0_637 : Cond.methodLink "java/lang/String" (637 : Nat) ({ cls := "java/lang/StringLatin1", name := "indexOf", desc := "([BIII)I" } : Jvm.MethodName) ∈ lw_g := xg (xin_3 (List.mem_of_getElem? (i := 47) rfl)) rfl
theorem wf_J0_38 : Cond.fieldLink "java/lang/String" (38 : Nat) "java/lang/String" "COMPACT_STRINGS" "Z" ∈ lw_g := xg (xin_2 (List.mem_of_getElem? (i := 230) rfl)) rfl
theorem wf_J0_15 : Cond.fieldLink "java/lang/String" (15 : Nat) "java/lang/String" "coder" "B" ∈ lw_g := xg (xin_9 (List.mem_of_getElem? (i := 9) rfl)) rfl
theorem wk_J0_checkIndex_df160 : Cond.code ({ cls := "java/lang/String", name := "checkIndex", desc := "(II)V" } : Jvm.MethodName) prog_17_method_155_code (2 : Nat) (Option.none : Option Jvm.ClassFile.FieldType) ∈ lw_g := xg (xin_3 (List.mem_of_getElem? (i := 5) rfl)) rfl
theorem MK_J0_checkIndex_df160 : MK yJ0_checkIndex_df160 bJ0_checkIndex_df160 2 none 2 := ⟨wn_J0, wk_J0_checkIndex_df160, ⟨by decide, by decide, by decide +kernel⟩, by decide⟩
theorem ws_J0_checkIndex_df160 : Cond.static ({ cls := "java/lang/String", name := "checkIndex", desc := "(II)V" } : Jvm.MethodName) ∈ lw_g := xg (xin_3 (List.mem_of_getElem? (i := 4) rfl)) rfl
theorem wm_J1_9 : Cond.methodLink "java/lang/StringLatin1" (9 : Nat) ({ cls := "java/lang/String", name := "checkIndex", desc := "(II)V" } : Jvm.MethodName) ∈ lw_g := xg (xin_3 (List.mem_of_getElem? (i := 3) rfl)) rfl
theorem wk_J1_canEncode_9a6ad : Cond.code ({ cls := "java/lang/StringLatin1", name := "canEncode", desc := "(I)Z" } : Jvm.MethodName) prog_18_method_4_code (1 : Nat) (Option.some Jvm.ClassFile.FieldType.boolean) ∈ lw_g := xg (xin_3 (List.mem_of_getElem? (i := 52) rfl)) rfl
theorem MK_J1_canEncode_9a6ad : MK yJ1_canEncode_9a6ad bJ1_canEncode_9a6ad 1 (some .boolean) 1 := ⟨wn_J1, wk_J1_canEncode_9a6ad, ⟨by decide, by decide, by decide +kernel⟩, by decide⟩
theorem ws_J1_canEncode_9a6ad : Cond.static ({ cls := "java/lang/StringLatin1", name := "canEncode", desc := "(I)Z" } : Jvm.MethodName) ∈ lw_g := xg (xin_3 (List.mem_of_getElem? (i := 51) rfl)) rfl
theorem wm_J1_88 : Cond.methodLink "java/lang/StringLatin1" (88 : Nat) ({ cls := "java/lang/StringLatin1", name := "canEncode", desc := "(I)Z" } : Jvm.MethodName) ∈ lw_g := xg (xin_3 (List.mem_of_getElem? (i := 50) rfl)) rfl
theorem wm_J1_92 : Cond.methodLink "java/lang/StringLatin1" (92 : Nat) ({ cls := "java/lang/Math", name := "max", desc := "(II)I" } : Jvm.MethodName) ∈ lw_g := xg (xin_3 (List.mem_of_getElem? (i := 53) rfl)) rfl
theorem wm_J1_38 : Cond.methodLink "java/lang/StringLatin1" (38 : Nat) ({ cls := "java/lang/Math", name := "min", desc := "(II)I" } : Jvm.MethodName) ∈ lw_g := xg (xin_3 (List.mem_of_getElem? (i := 56) rfl)) rfl
theorem wk_J1_indexOfChar_4cfef : Cond.code ({ cls := "java/lang/StringLatin1", name := "indexOfChar", desc := "([BIII)I" } : Jvm.MethodName) prog_18_method_23_code (6 : Nat) (Option.some Jvm.ClassFile.FieldType.int) ∈ lw_g := xg (xin_3 (List.mem_of_getElem? (i := 61) rfl)) rfl
theorem MK_J1_indexOfChar_4cfef : MK yJ1_indexOfChar_4cfef bJ1_indexOfChar_4cfef 6 (some .int) 4 := ⟨wn_J1, wk_J1_indexOfChar_4cfef, ⟨by decide, by decide, by decide +kernel⟩, by decide⟩
theorem ws_J1_indexOfChar_4cfef : Cond.static ({ cls := "java/lang/StringLatin1", name := "indexOfChar", desc := "([BIII)I" } : Jvm.MethodName) ∈ lw_g := xg (xin_3 (List.mem_of_getElem? (i := 60) rfl)) rfl
theorem wm_J1_95 : Cond.methodLink "java/lang/StringLatin1" (95 : Nat) ({ cls := "java/lang/StringLatin1", name := "indexOfChar", desc := "([BIII)I" } : Jvm.MethodName) ∈ lw_g := xg (xin_3 (List.mem_of_getElem? (i := 59) rfl)) rfl
theorem wf_J0_1053 : Cond.fieldLink "java/lang/String" (1053 : Nat) "jdk/internal/util/Preconditions" "SIOOBE_FORMATTER" "Ljava/util/function/BiFunction;" ∈ lw_g := xg (xin_3 (List.mem_of_getElem? (i := 6) rfl)) rfl
theorem wn_J3 : Cond.initialized "jdk/internal/util/Preconditions" ∈ lw_g := xg (xin_1 (List.mem_of_getElem? (i := 14) rfl)) rfl
theorem wk_J3_checkIndex_8e157 : Cond.code ({ cls := "jdk/internal/util/Preconditions", name := "checkIndex", desc := "(IILjava/util/function/BiFunction;)I" } : Jvm.MethodName) prog_20_method_11_code (3 : Nat) (Option.some Jvm.ClassFile.FieldType.int) ∈ lw_g := xg (xin_3 (List.mem_of_getElem? (i := 10) rfl)) rfl
theorem MK_J3_checkIndex_8e157 : MK yJ3_checkIndex_8e157 bJ3_checkIndex_8e157 3 (some .int) 3 := ⟨wn_J3, wk_J3_checkIndex_8e157, ⟨by decide, by decide, by decide +kernel⟩, by decide⟩
theorem ws_J3_checkIndex_8e157 : Cond.static ({ cls := "jdk/internal/util/Preconditions", name := "checkIndex", desc := "(IILjava/util/function/BiFunction;)I" } : Jvm.MethodName) ∈ lw_g := xg (xin_3 (List.mem_of_getElem? (i := 9) rfl)) rfl
theorem wm_J0_1059 : Cond.methodLink "java/lang/String" (1059 : Nat) ({ cls := "jdk/internal/util/Preconditions", name := "checkIndex", desc := "(IILjava/util/function/BiFunction;)I" } : Jvm.MethodName) ∈ lw_g := xg (xin_3 (List.mem_of_getElem? (i := 8) rfl)) rfl
theorem xws_min : Cond.static Lib.Math.min.name ∈ lw_g := xg (xin_3 (List.mem_of_getElem? (i := 57) rfl)) rfl
theorem xwk_min : Cond.code Lib.Math.min.name Lib.Math.min.code 2 (some .int) ∈ lw_g := xg (xin_3 (List.mem_of_getElem? (i := 58) rfl)) rfl
theorem xws_max : Cond.static Lib.Math.max.name ∈ lw_g := xg (xin_3 (List.mem_of_getElem? (i := 54) rfl)) rfl
theorem xwk_max : Cond.code Lib.Math.max.name Lib.Math.max.code 2 (some .int) ∈ lw_g := xg (xin_3 (List.mem_of_getElem? (i := 55) rfl)) rfl
theorem xws_abs : Cond.static Lib.Math.abs.name ∈ lw_g := xg (xin_4 (List.mem_of_getElem? (i := 25) rfl)) rfl
theorem xwk_abs : Cond.code Lib.Math.abs.name Lib.Math.abs.code 1 (some .int) ∈ lw_g := xg (xin_4 (List.mem_of_getElem? (i := 26) rfl)) rfl
theorem xwm : Cond.initialized "java/lang/Math" ∈ lw_g := xg (xin_1 (List.mem_of_getElem? (i := 16) rfl)) rfl
