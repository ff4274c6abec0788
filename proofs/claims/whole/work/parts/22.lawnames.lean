theorem m_0 : (.initialized "MoveDeskLaw" : Cond) ∈ bw := mw 0 (by decide +kernel) rfl
theorem m_19 : (.classLink "MoveDeskLaw" 8 "MoveDesk" : Cond) ∈ bw := mw 19 (by decide +kernel) rfl
theorem m_20 : (.instantiable "MoveDesk" 7 : Cond) ∈ bw := mw 20 (by decide +kernel) rfl
theorem m_21 : (.methodLink "MoveDeskLaw" 53 ⟨"MoveDesk", "<init>", "(III)V"⟩ : Cond) ∈ bw := mw 21 (by decide +kernel) rfl
theorem m_22 : (.instanceMethod ⟨"MoveDesk", "<init>", "(III)V"⟩ : Cond) ∈ bw := mw 22 (by decide +kernel) rfl
theorem m_23 : (.code ⟨"MoveDesk", "<init>", "(III)V"⟩ prog_1_method_1_code 5 none : Cond) ∈ bw := mw 23 (by decide +kernel) rfl
theorem m_293 : (.methodLink "MoveDeskLaw" 70 ⟨"MoveDesk", "moveAt", "(III)I"⟩ : Cond) ∈ bw := mw 293 (by decide +kernel) rfl
theorem m_294 : (.instanceMethod ⟨"MoveDesk", "moveAt", "(III)I"⟩ : Cond) ∈ bw := mw 294 (by decide +kernel) rfl
theorem m_295 : (.selects "MoveDesk" ⟨"MoveDesk", "moveAt", "(III)I"⟩ ⟨"MoveDesk", "moveAt", "(III)I"⟩ : Cond) ∈ bw := mw 295 (by decide +kernel) rfl
theorem m_296 : (.code ⟨"MoveDesk", "moveAt", "(III)I"⟩ prog_1_method_4_code 4 (some .int) : Cond) ∈ bw := mw 296 (by decide +kernel) rfl
theorem m_321 : (.methodLink "MoveDeskLaw" 75 ⟨"MoveDesk", "clear", "()V"⟩ : Cond) ∈ bw := mw 321 (by decide +kernel) rfl
theorem m_322 : (.instanceMethod ⟨"MoveDesk", "clear", "()V"⟩ : Cond) ∈ bw := mw 322 (by decide +kernel) rfl
theorem m_323 : (.selects "MoveDesk" ⟨"MoveDesk", "clear", "()V"⟩ ⟨"MoveDesk", "clear", "()V"⟩ : Cond) ∈ bw := mw 323 (by decide +kernel) rfl
theorem m_324 : (.code ⟨"MoveDesk", "clear", "()V"⟩ prog_1_method_5_code 1 none : Cond) ∈ bw := mw 324 (by decide +kernel) rfl
theorem m_329 : (.methodLink "MoveDeskLaw" 83 ⟨"MoveDesk", "forget", "()I"⟩ : Cond) ∈ bw := mw 329 (by decide +kernel) rfl
theorem m_330 : (.instanceMethod ⟨"MoveDesk", "forget", "()I"⟩ : Cond) ∈ bw := mw 330 (by decide +kernel) rfl
theorem m_331 : (.selects "MoveDesk" ⟨"MoveDesk", "forget", "()I"⟩ ⟨"MoveDesk", "forget", "()I"⟩ : Cond) ∈ bw := mw 331 (by decide +kernel) rfl
theorem m_332 : (.code ⟨"MoveDesk", "forget", "()I"⟩ prog_1_method_7_code 1 (some .int) : Cond) ∈ bw := mw 332 (by decide +kernel) rfl
theorem m_337 : (.methodLink "MoveDeskLaw" 91 ⟨"MoveDesk", "judge", "()I"⟩ : Cond) ∈ bw := mw 337 (by decide +kernel) rfl
theorem m_338 : (.instanceMethod ⟨"MoveDesk", "judge", "()I"⟩ : Cond) ∈ bw := mw 338 (by decide +kernel) rfl
theorem m_339 : (.selects "MoveDesk" ⟨"MoveDesk", "judge", "()I"⟩ ⟨"MoveDesk", "judge", "()I"⟩ : Cond) ∈ bw := mw 339 (by decide +kernel) rfl
theorem m_340 : (.code ⟨"MoveDesk", "judge", "()I"⟩ prog_1_method_9_code 2 (some .int) : Cond) ∈ bw := mw 340 (by decide +kernel) rfl
theorem m_424 : (.methodLink "MoveDeskLaw" 95 ⟨"MoveDesk", "fault", "(I)I"⟩ : Cond) ∈ bw := mw 424 (by decide +kernel) rfl
theorem m_425 : (.instanceMethod ⟨"MoveDesk", "fault", "(I)I"⟩ : Cond) ∈ bw := mw 425 (by decide +kernel) rfl
theorem m_426 : (.selects "MoveDesk" ⟨"MoveDesk", "fault", "(I)I"⟩ ⟨"MoveDesk", "fault", "(I)I"⟩ : Cond) ∈ bw := mw 426 (by decide +kernel) rfl
theorem m_427 : (.code ⟨"MoveDesk", "fault", "(I)I"⟩ prog_1_method_10_code 2 (some .int) : Cond) ∈ bw := mw 427 (by decide +kernel) rfl
theorem m_428 : (.methodLink "MoveDeskLaw" 99 ⟨"MoveDesk", "reset", "()V"⟩ : Cond) ∈ bw := mw 428 (by decide +kernel) rfl
theorem m_429 : (.instanceMethod ⟨"MoveDesk", "reset", "()V"⟩ : Cond) ∈ bw := mw 429 (by decide +kernel) rfl
theorem m_430 : (.selects "MoveDesk" ⟨"MoveDesk", "reset", "()V"⟩ ⟨"MoveDesk", "reset", "()V"⟩ : Cond) ∈ bw := mw 430 (by decide +kernel) rfl
theorem m_431 : (.code ⟨"MoveDesk", "reset", "()V"⟩ prog_1_method_11_code 1 none : Cond) ∈ bw := mw 431 (by decide +kernel) rfl
theorem m_436 : (.methodLink "MoveDeskLaw" 114 ⟨"MoveDesk", "state", "(I)I"⟩ : Cond) ∈ bw := mw 436 (by decide +kernel) rfl
theorem m_437 : (.instanceMethod ⟨"MoveDesk", "state", "(I)I"⟩ : Cond) ∈ bw := mw 437 (by decide +kernel) rfl
theorem m_438 : (.selects "MoveDesk" ⟨"MoveDesk", "state", "(I)I"⟩ ⟨"MoveDesk", "state", "(I)I"⟩ : Cond) ∈ bw := mw 438 (by decide +kernel) rfl
theorem m_439 : (.code ⟨"MoveDesk", "state", "(I)I"⟩ prog_1_method_15_code 2 (some .int) : Cond) ∈ bw := mw 439 (by decide +kernel) rfl
theorem m_444 : (.methodLink "MoveDeskLaw" 47 ⟨"MoveDeskLaw", "cell", "([II)I"⟩ : Cond) ∈ bw := mw 444 (by decide +kernel) rfl
theorem m_445 : (.static ⟨"MoveDeskLaw", "cell", "([II)I"⟩ : Cond) ∈ bw := mw 445 (by decide +kernel) rfl
theorem m_446 : (.code ⟨"MoveDeskLaw", "cell", "([II)I"⟩ method_2_code 2 (some .int) : Cond) ∈ bw := mw 446 (by decide +kernel) rfl
theorem m_447 : (.methodLink "MoveDeskLaw" 59 ⟨"MoveDeskLaw", "move", "(LMoveDesk;IIIIII)I"⟩ : Cond) ∈ bw := mw 447 (by decide +kernel) rfl
theorem m_448 : (.static ⟨"MoveDeskLaw", "move", "(LMoveDesk;IIIIII)I"⟩ : Cond) ∈ bw := mw 448 (by decide +kernel) rfl
theorem m_449 : (.codeWith ⟨"MoveDeskLaw", "move", "(LMoveDesk;IIIIII)I"⟩ method_3_code 8 (some .int) [(0, 13, 16, 13), (0, 13, 20, 15)] : Cond) ∈ bw := mw 449 (by decide +kernel) rfl
theorem m_542 : (.methodLink "MoveDeskLaw" 66 ⟨"MoveDeskLaw", "free", "(LMoveDesk;II[J)I"⟩ : Cond) ∈ bw := mw 542 (by decide +kernel) rfl
theorem m_543 : (.static ⟨"MoveDeskLaw", "free", "(LMoveDesk;II[J)I"⟩ : Cond) ∈ bw := mw 543 (by decide +kernel) rfl
theorem m_544 : (.codeWith ⟨"MoveDeskLaw", "free", "(LMoveDesk;II[J)I"⟩ method_4_code 5 (some .int) [(0, 17, 20, 13)] : Cond) ∈ bw := mw 544 (by decide +kernel) rfl
theorem m_554 : (.methodLink "MoveDeskLaw" 79 ⟨"MoveDeskLaw", "operation", "(LMoveDesk;IIIII[J)I"⟩ : Cond) ∈ bw := mw 554 (by decide +kernel) rfl
theorem m_555 : (.static ⟨"MoveDeskLaw", "operation", "(LMoveDesk;IIIII[J)I"⟩ : Cond) ∈ bw := mw 555 (by decide +kernel) rfl
theorem m_556 : (.codeWith ⟨"MoveDeskLaw", "operation", "(LMoveDesk;IIIII[J)I"⟩ method_5_code 8 (some .int) [(0, 16, 19, 15), (0, 16, 23, 25)] : Cond) ∈ bw := mw 556 (by decide +kernel) rfl
theorem m_590 : (.methodLink "MoveDeskLaw" 87 ⟨"MoveDeskLaw", "compile", "(LMoveDesk;[J)I"⟩ : Cond) ∈ bw := mw 590 (by decide +kernel) rfl
theorem m_591 : (.static ⟨"MoveDeskLaw", "compile", "(LMoveDesk;[J)I"⟩ : Cond) ∈ bw := mw 591 (by decide +kernel) rfl
theorem m_592 : (.codeWith ⟨"MoveDeskLaw", "compile", "(LMoveDesk;[J)I"⟩ method_6_code 3 (some .int) [(0, 8, 11, 31)] : Cond) ∈ bw := mw 592 (by decide +kernel) rfl
theorem m_707 : (.methodLink "MoveDeskLaw" 103 ⟨"MoveDeskLaw", "run", "(LMoveDesk;I[J)I"⟩ : Cond) ∈ bw := mw 707 (by decide +kernel) rfl
theorem m_708 : (.static ⟨"MoveDeskLaw", "run", "(LMoveDesk;I[J)I"⟩ : Cond) ∈ bw := mw 708 (by decide +kernel) rfl
theorem m_709 : (.codeWith ⟨"MoveDeskLaw", "run", "(LMoveDesk;I[J)I"⟩ method_7_code 4 (some .int) [(0, 9, 12, 15)] : Cond) ∈ bw := mw 709 (by decide +kernel) rfl
theorem m_771 : (.methodLink "MoveDeskLaw" 107 ⟨"MoveDeskLaw", "poke", "(LMoveDesk;II)I"⟩ : Cond) ∈ bw := mw 771 (by decide +kernel) rfl
theorem m_772 : (.static ⟨"MoveDeskLaw", "poke", "(LMoveDesk;II)I"⟩ : Cond) ∈ bw := mw 772 (by decide +kernel) rfl
theorem m_773 : (.codeWith ⟨"MoveDeskLaw", "poke", "(LMoveDesk;II)I"⟩ method_8_code 4 (some .int) [(0, 6, 9, 13)] : Cond) ∈ bw := mw 773 (by decide +kernel) rfl
theorem m_781 : (.methodLink "MoveDeskLaw" 111 ⟨"MoveDeskLaw", "peek", "(LMoveDesk;I[J)I"⟩ : Cond) ∈ bw := mw 781 (by decide +kernel) rfl
theorem m_782 : (.static ⟨"MoveDeskLaw", "peek", "(LMoveDesk;I[J)I"⟩ : Cond) ∈ bw := mw 782 (by decide +kernel) rfl
theorem m_783 : (.codeWith ⟨"MoveDeskLaw", "peek", "(LMoveDesk;I[J)I"⟩ method_9_code 4 (some .int) [(0, 9, 12, 13)] : Cond) ∈ bw := mw 783 (by decide +kernel) rfl
theorem m_788 : (.methodLink "MoveDeskLaw" 118 ⟨"MoveDeskLaw", "done", "(LMoveDesk;I[J)I"⟩ : Cond) ∈ bw := mw 788 (by decide +kernel) rfl
theorem m_789 : (.static ⟨"MoveDeskLaw", "done", "(LMoveDesk;I[J)I"⟩ : Cond) ∈ bw := mw 789 (by decide +kernel) rfl
theorem m_790 : (.codeWith ⟨"MoveDeskLaw", "done", "(LMoveDesk;I[J)I"⟩ method_10_code 4 (some .int) [(0, 9, 12, 13)] : Cond) ∈ bw := mw 790 (by decide +kernel) rfl
theorem m_811 : (.classLink "MoveDeskLaw" 56 "MoveDeskModel" : Cond) ∈ bw := mw 811 (by decide +kernel) rfl
theorem m_812 : (.instantiable "MoveDeskModel" 32 : Cond) ∈ bw := mw 812 (by decide +kernel) rfl
theorem m_813 : (.methodLink "MoveDeskLaw" 58 ⟨"MoveDeskModel", "<init>", "(III)V"⟩ : Cond) ∈ bw := mw 813 (by decide +kernel) rfl
theorem m_814 : (.instanceMethod ⟨"MoveDeskModel", "<init>", "(III)V"⟩ : Cond) ∈ bw := mw 814 (by decide +kernel) rfl
theorem m_815 : (.code ⟨"MoveDeskModel", "<init>", "(III)V"⟩ prog_9_method_1_code 5 none : Cond) ∈ bw := mw 815 (by decide +kernel) rfl
theorem m_915 : (.methodLink "MoveDeskLaw" 63 ⟨"MoveDeskModel", "thrown", "()I"⟩ : Cond) ∈ bw := mw 915 (by decide +kernel) rfl
theorem m_916 : (.instanceMethod ⟨"MoveDeskModel", "thrown", "()I"⟩ : Cond) ∈ bw := mw 916 (by decide +kernel) rfl
theorem m_917 : (.selects "MoveDeskModel" ⟨"MoveDeskModel", "thrown", "()I"⟩ ⟨"MoveDeskModel", "thrown", "()I"⟩ : Cond) ∈ bw := mw 917 (by decide +kernel) rfl
theorem m_918 : (.code ⟨"MoveDeskModel", "thrown", "()I"⟩ prog_9_method_2_code 1 (some .int) : Cond) ∈ bw := mw 918 (by decide +kernel) rfl
theorem m_919 : (.methodLink "MoveDeskLaw" 62 ⟨"MoveDeskModel", "move", "(IIIIII)V"⟩ : Cond) ∈ bw := mw 919 (by decide +kernel) rfl
theorem m_920 : (.instanceMethod ⟨"MoveDeskModel", "move", "(IIIIII)V"⟩ : Cond) ∈ bw := mw 920 (by decide +kernel) rfl
theorem m_921 : (.selects "MoveDeskModel" ⟨"MoveDeskModel", "move", "(IIIIII)V"⟩ ⟨"MoveDeskModel", "move", "(IIIIII)V"⟩ : Cond) ∈ bw := mw 921 (by decide +kernel) rfl
theorem m_922 : (.code ⟨"MoveDeskModel", "move", "(IIIIII)V"⟩ prog_9_method_5_code 7 none : Cond) ∈ bw := mw 922 (by decide +kernel) rfl
theorem m_930 : (.methodLink "MoveDeskLaw" 69 ⟨"MoveDeskModel", "free", "(II)Z"⟩ : Cond) ∈ bw := mw 930 (by decide +kernel) rfl
theorem m_931 : (.instanceMethod ⟨"MoveDeskModel", "free", "(II)Z"⟩ : Cond) ∈ bw := mw 931 (by decide +kernel) rfl
theorem m_932 : (.selects "MoveDeskModel" ⟨"MoveDeskModel", "free", "(II)Z"⟩ ⟨"MoveDeskModel", "free", "(II)Z"⟩ : Cond) ∈ bw := mw 932 (by decide +kernel) rfl
theorem m_933 : (.code ⟨"MoveDeskModel", "free", "(II)Z"⟩ prog_9_method_6_code 4 (some .boolean) : Cond) ∈ bw := mw 933 (by decide +kernel) rfl
theorem m_934 : (.methodLink "MoveDeskLaw" 74 ⟨"MoveDeskModel", "moveAt", "(III)I"⟩ : Cond) ∈ bw := mw 934 (by decide +kernel) rfl
theorem m_935 : (.instanceMethod ⟨"MoveDeskModel", "moveAt", "(III)I"⟩ : Cond) ∈ bw := mw 935 (by decide +kernel) rfl
theorem m_936 : (.selects "MoveDeskModel" ⟨"MoveDeskModel", "moveAt", "(III)I"⟩ ⟨"MoveDeskModel", "moveAt", "(III)I"⟩ : Cond) ∈ bw := mw 936 (by decide +kernel) rfl
theorem m_937 : (.code ⟨"MoveDeskModel", "moveAt", "(III)I"⟩ prog_9_method_7_code 4 (some .int) : Cond) ∈ bw := mw 937 (by decide +kernel) rfl
theorem m_938 : (.methodLink "MoveDeskLaw" 78 ⟨"MoveDeskModel", "clear", "()V"⟩ : Cond) ∈ bw := mw 938 (by decide +kernel) rfl
theorem m_939 : (.instanceMethod ⟨"MoveDeskModel", "clear", "()V"⟩ : Cond) ∈ bw := mw 939 (by decide +kernel) rfl
theorem m_940 : (.selects "MoveDeskModel" ⟨"MoveDeskModel", "clear", "()V"⟩ ⟨"MoveDeskModel", "clear", "()V"⟩ : Cond) ∈ bw := mw 940 (by decide +kernel) rfl
theorem m_941 : (.code ⟨"MoveDeskModel", "clear", "()V"⟩ prog_9_method_8_code 2 none : Cond) ∈ bw := mw 941 (by decide +kernel) rfl
theorem m_942 : (.methodLink "MoveDeskLaw" 106 ⟨"MoveDeskModel", "run", "(I)I"⟩ : Cond) ∈ bw := mw 942 (by decide +kernel) rfl
theorem m_943 : (.instanceMethod ⟨"MoveDeskModel", "run", "(I)I"⟩ : Cond) ∈ bw := mw 943 (by decide +kernel) rfl
theorem m_944 : (.selects "MoveDeskModel" ⟨"MoveDeskModel", "run", "(I)I"⟩ ⟨"MoveDeskModel", "run", "(I)I"⟩ : Cond) ∈ bw := mw 944 (by decide +kernel) rfl
theorem m_945 : (.code ⟨"MoveDeskModel", "run", "(I)I"⟩ prog_9_method_22_code 3 (some .int) : Cond) ∈ bw := mw 945 (by decide +kernel) rfl
theorem m_997 : (.methodLink "MoveDeskLaw" 102 ⟨"MoveDeskModel", "reset", "()V"⟩ : Cond) ∈ bw := mw 997 (by decide +kernel) rfl
theorem m_998 : (.instanceMethod ⟨"MoveDeskModel", "reset", "()V"⟩ : Cond) ∈ bw := mw 998 (by decide +kernel) rfl
theorem m_999 : (.selects "MoveDeskModel" ⟨"MoveDeskModel", "reset", "()V"⟩ ⟨"MoveDeskModel", "reset", "()V"⟩ : Cond) ∈ bw := mw 999 (by decide +kernel) rfl
theorem m_1000 : (.code ⟨"MoveDeskModel", "reset", "()V"⟩ prog_9_method_23_code 2 none : Cond) ∈ bw := mw 1000 (by decide +kernel) rfl
theorem m_1001 : (.methodLink "MoveDeskLaw" 94 ⟨"MoveDeskModel", "judge", "()I"⟩ : Cond) ∈ bw := mw 1001 (by decide +kernel) rfl
theorem m_1002 : (.instanceMethod ⟨"MoveDeskModel", "judge", "()I"⟩ : Cond) ∈ bw := mw 1002 (by decide +kernel) rfl
theorem m_1003 : (.selects "MoveDeskModel" ⟨"MoveDeskModel", "judge", "()I"⟩ ⟨"MoveDeskModel", "judge", "()I"⟩ : Cond) ∈ bw := mw 1003 (by decide +kernel) rfl
theorem m_1004 : (.code ⟨"MoveDeskModel", "judge", "()I"⟩ prog_9_method_30_code 2 (some .int) : Cond) ∈ bw := mw 1004 (by decide +kernel) rfl
theorem m_1029 : (.methodLink "MoveDeskLaw" 98 ⟨"MoveDeskModel", "fault", "(I)I"⟩ : Cond) ∈ bw := mw 1029 (by decide +kernel) rfl
theorem m_1030 : (.instanceMethod ⟨"MoveDeskModel", "fault", "(I)I"⟩ : Cond) ∈ bw := mw 1030 (by decide +kernel) rfl
theorem m_1031 : (.selects "MoveDeskModel" ⟨"MoveDeskModel", "fault", "(I)I"⟩ ⟨"MoveDeskModel", "fault", "(I)I"⟩ : Cond) ∈ bw := mw 1031 (by decide +kernel) rfl
theorem m_1032 : (.code ⟨"MoveDeskModel", "fault", "(I)I"⟩ prog_9_method_31_code 2 (some .int) : Cond) ∈ bw := mw 1032 (by decide +kernel) rfl
theorem m_1033 : (.methodLink "MoveDeskLaw" 82 ⟨"MoveDeskModel", "operation", "(IIIII)I"⟩ : Cond) ∈ bw := mw 1033 (by decide +kernel) rfl
theorem m_1034 : (.instanceMethod ⟨"MoveDeskModel", "operation", "(IIIII)I"⟩ : Cond) ∈ bw := mw 1034 (by decide +kernel) rfl
theorem m_1035 : (.selects "MoveDeskModel" ⟨"MoveDeskModel", "operation", "(IIIII)I"⟩ ⟨"MoveDeskModel", "operation", "(IIIII)I"⟩ : Cond) ∈ bw := mw 1035 (by decide +kernel) rfl
theorem m_1036 : (.code ⟨"MoveDeskModel", "operation", "(IIIII)I"⟩ prog_9_method_33_code 7 (some .int) : Cond) ∈ bw := mw 1036 (by decide +kernel) rfl
theorem m_1040 : (.methodLink "MoveDeskLaw" 86 ⟨"MoveDeskModel", "forget", "()I"⟩ : Cond) ∈ bw := mw 1040 (by decide +kernel) rfl
theorem m_1041 : (.instanceMethod ⟨"MoveDeskModel", "forget", "()I"⟩ : Cond) ∈ bw := mw 1041 (by decide +kernel) rfl
theorem m_1042 : (.selects "MoveDeskModel" ⟨"MoveDeskModel", "forget", "()I"⟩ ⟨"MoveDeskModel", "forget", "()I"⟩ : Cond) ∈ bw := mw 1042 (by decide +kernel) rfl
theorem m_1043 : (.code ⟨"MoveDeskModel", "forget", "()I"⟩ prog_9_method_34_code 2 (some .int) : Cond) ∈ bw := mw 1043 (by decide +kernel) rfl
theorem m_1044 : (.methodLink "MoveDeskLaw" 120 ⟨"MoveDeskModel", "done", "(I)I"⟩ : Cond) ∈ bw := mw 1044 (by decide +kernel) rfl
theorem m_1045 : (.instanceMethod ⟨"MoveDeskModel", "done", "(I)I"⟩ : Cond) ∈ bw := mw 1045 (by decide +kernel) rfl
theorem m_1046 : (.selects "MoveDeskModel" ⟨"MoveDeskModel", "done", "(I)I"⟩ ⟨"MoveDeskModel", "done", "(I)I"⟩ : Cond) ∈ bw := mw 1046 (by decide +kernel) rfl
theorem m_1047 : (.code ⟨"MoveDeskModel", "done", "(I)I"⟩ prog_9_method_37_code 2 (some .int) : Cond) ∈ bw := mw 1047 (by decide +kernel) rfl
theorem m_1056 : (.methodLink "MoveDeskLaw" 90 ⟨"MoveDeskModel", "compile", "()I"⟩ : Cond) ∈ bw := mw 1056 (by decide +kernel) rfl
theorem m_1057 : (.instanceMethod ⟨"MoveDeskModel", "compile", "()I"⟩ : Cond) ∈ bw := mw 1057 (by decide +kernel) rfl
theorem m_1058 : (.selects "MoveDeskModel" ⟨"MoveDeskModel", "compile", "()I"⟩ ⟨"MoveDeskModel", "compile", "()I"⟩ : Cond) ∈ bw := mw 1058 (by decide +kernel) rfl
theorem m_1059 : (.code ⟨"MoveDeskModel", "compile", "()I"⟩ prog_9_method_49_code 5 (some .int) : Cond) ∈ bw := mw 1059 (by decide +kernel) rfl
theorem m_1103 : (.methodLink "MoveDeskLaw" 110 ⟨"MoveDeskModel", "poke", "(II)V"⟩ : Cond) ∈ bw := mw 1103 (by decide +kernel) rfl
theorem m_1104 : (.instanceMethod ⟨"MoveDeskModel", "poke", "(II)V"⟩ : Cond) ∈ bw := mw 1104 (by decide +kernel) rfl
theorem m_1105 : (.selects "MoveDeskModel" ⟨"MoveDeskModel", "poke", "(II)V"⟩ ⟨"MoveDeskModel", "poke", "(II)V"⟩ : Cond) ∈ bw := mw 1105 (by decide +kernel) rfl
theorem m_1106 : (.code ⟨"MoveDeskModel", "poke", "(II)V"⟩ prog_9_method_50_code 3 none : Cond) ∈ bw := mw 1106 (by decide +kernel) rfl
theorem m_1107 : (.methodLink "MoveDeskLaw" 113 ⟨"MoveDeskModel", "peek", "(I)I"⟩ : Cond) ∈ bw := mw 1107 (by decide +kernel) rfl
theorem m_1108 : (.instanceMethod ⟨"MoveDeskModel", "peek", "(I)I"⟩ : Cond) ∈ bw := mw 1108 (by decide +kernel) rfl
theorem m_1109 : (.selects "MoveDeskModel" ⟨"MoveDeskModel", "peek", "(I)I"⟩ ⟨"MoveDeskModel", "peek", "(I)I"⟩ : Cond) ∈ bw := mw 1109 (by decide +kernel) rfl
theorem m_1110 : (.code ⟨"MoveDeskModel", "peek", "(I)I"⟩ prog_9_method_51_code 2 (some .int) : Cond) ∈ bw := mw 1110 (by decide +kernel) rfl
theorem m_1111 : (.methodLink "MoveDeskLaw" 117 ⟨"MoveDeskModel", "state", "(I)I"⟩ : Cond) ∈ bw := mw 1111 (by decide +kernel) rfl
theorem m_1112 : (.instanceMethod ⟨"MoveDeskModel", "state", "(I)I"⟩ : Cond) ∈ bw := mw 1112 (by decide +kernel) rfl
theorem m_1113 : (.selects "MoveDeskModel" ⟨"MoveDeskModel", "state", "(I)I"⟩ ⟨"MoveDeskModel", "state", "(I)I"⟩ : Cond) ∈ bw := mw 1113 (by decide +kernel) rfl
theorem m_1114 : (.code ⟨"MoveDeskModel", "state", "(I)I"⟩ prog_9_method_52_code 2 (some .int) : Cond) ∈ bw := mw 1114 (by decide +kernel) rfl
abbrev w_md_40_b3e4 (g : GT) (a_md : Nat) (a_lat : Nat) (a_co : Nat) (a_ta : Nat) (a_gu : Nat) (a_so : Nat) (a_cn : Nat) (a_de : Nat) (a_ma : Nat) (a_bu : Nat) (a_wo : Nat) (a_od : Nat) (a_rs : Nat) (a_ca : Nat) (a_cm : Nat) (a_op : Nat) (a_ki : Nat) (a_tg : Nat) (a_fi : Nat) (a_se : Nat) (a_oc : Nat) (a_cp : Nat) (a_pl : Nat) (a_bs : Nat) (a_rr : Nat) (a_hr : Nat) (a_lw : Nat) (a_lr : Nat) (a_lt : Nat) (a_lm : Nat) (a_tc : Nat) (a_rc : Nat) (a_ju : Nat) (a_jb : Nat) (a_ch : Nat) (a_rd : Nat) (a_fr : Nat) (a_ub : Nat) (a_wr : Nat) (a_out : Nat) (r_md : Nat → Int32) (r_lat : Nat → Int32) (r_co : Nat → Int32) (r_ta : Nat → Int32) (r_gu : Nat → Int32) (r_so : Nat → Int32) (r_cn : Nat → Int32) (r_de : Nat → Int32) (r_ma : Nat → Int32) (r_bu : Nat → Int32) (r_wo : Nat → Int32) (r_od : Nat → Int32) (r_rs : Nat → Int32) (r_ca : Nat → Int32) (r_cm : Nat → Int32) (r_op : Nat → Int32) (r_ki : Nat → Int32) (r_tg : Nat → Int32) (r_fi : Nat → Int32) (r_se : Nat → Int32) (r_oc : Nat → Int32) (r_cp : Nat → Int32) (r_bs : Nat → Int32) (r_rr : Nat → Int32) (r_hr : Nat → Int32) (r_lw : Nat → Int32) (r_lr : Nat → Int32) (r_lt : Nat → Int32) (r_lm : Nat → Int32) (r_tc : Nat → Int32) (r_rc : Nat → Int32) (r_ju : Nat → Int32) (r_jb : Nat → Int32) (r_ch : Nat → Int32) (r_rd : Nat → Int64) (r_fr : Nat → Int64) (r_ub : Nat → Int64) (r_wr : Nat → Int64) (r_out : Nat → Int64) : va_W := [kO a_md 6 [.ref a_co, .ref a_ma, .ref a_op, .ref a_pl, .ref a_ju, .int (r_md 5), .int (r_md 6)], kI g a_lat 3 r_lat, kO a_co 1 [.int (r_co 0), .ref a_ta, .ref a_gu, .ref a_so, .ref a_cn, .ref a_de], kI g a_ta 64 r_ta, kI g a_gu 256 r_gu, kI g a_so 256 r_so, kI g a_cn 256 r_cn, kI g a_de 256 r_de, kO a_ma 3 [.ref a_co, .ref a_lat, .ref a_bu, .ref a_wo, .ref a_od, .ref a_rs, .ref a_ca, .ref a_cm, .int (r_ma 8), .int (r_ma 9), .int (r_ma 10), .int (r_ma 11), .int (r_ma 12), .int (r_ma 13), .int (r_ma 14), .int (r_ma 15)], kO a_bu 0 [.int (r_bu 0), .int (r_bu 1), .int (r_bu 2), .int (r_bu 3), .int (r_bu 4), .int (r_bu 5), .int (r_bu 6), .int (r_bu 7)], kI g a_wo 72 r_wo, kI g a_od 3 r_od, kI g a_rs 3 r_rs, kI g a_ca 4 r_ca, kI g a_cm 12 r_cm, kO a_op 4 [.ref a_ki, .ref a_tg, .ref a_fi, .ref a_se, .ref a_oc, .ref a_cp, .int (r_op 6)], kI g a_ki 20 r_ki, kI g a_tg 20 r_tg, kI g a_fi 20 r_fi, kI g a_se 20 r_se, kI g a_oc 20 r_oc, kI g a_cp 72 r_cp, kO a_pl 5 [.ref a_co, .ref a_op, .ref a_lat, .ref a_bs, .ref a_rr, .ref a_hr, .ref a_lw, .ref a_lr, .ref a_lt, .ref a_lm, .ref a_tc, .ref a_rc], kI g a_bs 64 r_bs, kI g a_rr 64 r_rr, kZ g a_hr 64 r_hr, kI g a_lw 8 r_lw, kI g a_lr 8 r_lr, kI g a_lt 3 r_lt, kI g a_lm 3 r_lm, kI g a_tc 20 r_tc, kI g a_rc 20 r_rc, kO a_ju 2 [.ref a_co, .ref a_jb, .ref a_ch, .ref a_rd, .ref a_fr, .ref a_ub, .ref a_wr, .int (r_ju 7), .int (r_ju 8), .int (r_ju 9)], kO a_jb 0 [.int (r_jb 0), .int (r_jb 1), .int (r_jb 2), .int (r_jb 3), .int (r_jb 4), .int (r_jb 5), .int (r_jb 6), .int (r_jb 7)], kI g a_ch 64 r_ch, kJ g a_rd 576 r_rd, kJ g a_fr 576 r_fr, kJ g a_ub 3 r_ub, kJ g a_wr 3 r_wr, kJ g a_out 1 r_out]
abbrev b_La_law : ByteArray := code
abbrev y_La_law : MethodName := ⟨"MoveDeskLaw", "law", "([I)Z"⟩
theorem d_La_law_0 : decode b_La_law 0 = .ok (.new 8, 3) := by decide +kernel
theorem d_La_law_3 : decode b_La_law 3 = .ok (.dup, 1) := by decide +kernel
theorem d_La_law_4 : decode b_La_law 4 = .ok (.aload_n 0, 1) := by decide +kernel
theorem d_La_law_5 : decode b_La_law 5 = .ok (.iconst 0, 1) := by decide +kernel
theorem d_La_law_6 : decode b_La_law 6 = .ok (.invokestatic 47, 3) := by decide +kernel
theorem d_La_law_9 : decode b_La_law 9 = .ok (.aload_n 0, 1) := by decide +kernel
theorem d_La_law_10 : decode b_La_law 10 = .ok (.iconst 1, 1) := by decide +kernel
theorem d_La_law_11 : decode b_La_law 11 = .ok (.invokestatic 47, 3) := by decide +kernel
theorem d_La_law_14 : decode b_La_law 14 = .ok (.aload_n 0, 1) := by decide +kernel
theorem d_La_law_15 : decode b_La_law 15 = .ok (.iconst 2, 1) := by decide +kernel
theorem d_La_law_16 : decode b_La_law 16 = .ok (.invokestatic 47, 3) := by decide +kernel
theorem d_La_law_19 : decode b_La_law 19 = .ok (.invokespecial 53, 3) := by decide +kernel
theorem d_La_law_22 : decode b_La_law 22 = .ok (.astore_n 1, 1) := by decide +kernel
theorem d_La_law_23 : decode b_La_law 23 = .ok (.new 56, 3) := by decide +kernel
theorem d_La_law_26 : decode b_La_law 26 = .ok (.dup, 1) := by decide +kernel
theorem d_La_law_27 : decode b_La_law 27 = .ok (.aload_n 0, 1) := by decide +kernel
theorem d_La_law_28 : decode b_La_law 28 = .ok (.iconst 0, 1) := by decide +kernel
theorem d_La_law_29 : decode b_La_law 29 = .ok (.invokestatic 47, 3) := by decide +kernel
theorem d_La_law_32 : decode b_La_law 32 = .ok (.aload_n 0, 1) := by decide +kernel
theorem d_La_law_33 : decode b_La_law 33 = .ok (.iconst 1, 1) := by decide +kernel
theorem d_La_law_34 : decode b_La_law 34 = .ok (.invokestatic 47, 3) := by decide +kernel
theorem d_La_law_37 : decode b_La_law 37 = .ok (.aload_n 0, 1) := by decide +kernel
theorem d_La_law_38 : decode b_La_law 38 = .ok (.iconst 2, 1) := by decide +kernel
theorem d_La_law_39 : decode b_La_law 39 = .ok (.invokestatic 47, 3) := by decide +kernel
theorem d_La_law_42 : decode b_La_law 42 = .ok (.invokespecial 58, 3) := by decide +kernel
theorem d_La_law_45 : decode b_La_law 45 = .ok (.astore_n 2, 1) := by decide +kernel
theorem d_La_law_46 : decode b_La_law 46 = .ok (.iconst 1, 1) := by decide +kernel
theorem d_La_law_47 : decode b_La_law 47 = .ok (.newarray .long, 2) := by decide +kernel
theorem d_La_law_49 : decode b_La_law 49 = .ok (.astore_n 3, 1) := by decide +kernel
theorem d_La_law_50 : decode b_La_law 50 = .ok (.iconst 3, 1) := by decide +kernel
theorem d_La_law_51 : decode b_La_law 51 = .ok (.istore 4, 2) := by decide +kernel
theorem d_La_law_53 : decode b_La_law 53 = .ok (.iload 4, 2) := by decide +kernel
theorem d_La_law_55 : decode b_La_law 55 = .ok (.aload_n 0, 1) := by decide +kernel
theorem d_La_law_56 : decode b_La_law 56 = .ok (.arraylength, 1) := by decide +kernel
theorem d_La_law_57 : decode b_La_law 57 = .ok (.bipush 7, 2) := by decide +kernel
theorem d_La_law_59 : decode b_La_law 59 = .ok (.isub, 1) := by decide +kernel
theorem d_La_law_60 : decode b_La_law 60 = .ok (.if_icmp .gt 774, 3) := by decide +kernel
theorem d_La_law_63 : decode b_La_law 63 = .ok (.aload_n 0, 1) := by decide +kernel
theorem d_La_law_64 : decode b_La_law 64 = .ok (.iload 4, 2) := by decide +kernel
theorem d_La_law_66 : decode b_La_law 66 = .ok (.iaload, 1) := by decide +kernel
theorem d_La_law_67 : decode b_La_law 67 = .ok (.bipush 15, 2) := by decide +kernel
theorem d_La_law_69 : decode b_La_law 69 = .ok (.iand, 1) := by decide +kernel
theorem d_La_law_70 : decode b_La_law 70 = .ok (.tableswitch 758 0 14 #[74, 172, 247, 296, 307, 411, 424, 468, 481, 506, 517, 573, 621, 677, 702], 74) := by decide +kernel
theorem d_La_law_144 : decode b_La_law 144 = .ok (.aload_n 1, 1) := by decide +kernel
theorem d_La_law_145 : decode b_La_law 145 = .ok (.aload_n 0, 1) := by decide +kernel
theorem d_La_law_146 : decode b_La_law 146 = .ok (.iload 4, 2) := by decide +kernel
theorem d_La_law_148 : decode b_La_law 148 = .ok (.iconst 1, 1) := by decide +kernel
theorem d_La_law_149 : decode b_La_law 149 = .ok (.iadd, 1) := by decide +kernel
theorem d_La_law_150 : decode b_La_law 150 = .ok (.iaload, 1) := by decide +kernel
theorem d_La_law_151 : decode b_La_law 151 = .ok (.aload_n 0, 1) := by decide +kernel
theorem d_La_law_152 : decode b_La_law 152 = .ok (.iload 4, 2) := by decide +kernel
theorem d_La_law_154 : decode b_La_law 154 = .ok (.iconst 2, 1) := by decide +kernel
theorem d_La_law_155 : decode b_La_law 155 = .ok (.iadd, 1) := by decide +kernel
theorem d_La_law_156 : decode b_La_law 156 = .ok (.iaload, 1) := by decide +kernel
theorem d_La_law_157 : decode b_La_law 157 = .ok (.aload_n 0, 1) := by decide +kernel
theorem d_La_law_158 : decode b_La_law 158 = .ok (.iload 4, 2) := by decide +kernel
theorem d_La_law_160 : decode b_La_law 160 = .ok (.iconst 3, 1) := by decide +kernel
theorem d_La_law_161 : decode b_La_law 161 = .ok (.iadd, 1) := by decide +kernel
theorem d_La_law_162 : decode b_La_law 162 = .ok (.iaload, 1) := by decide +kernel
theorem d_La_law_163 : decode b_La_law 163 = .ok (.aload_n 0, 1) := by decide +kernel
theorem d_La_law_164 : decode b_La_law 164 = .ok (.iload 4, 2) := by decide +kernel
theorem d_La_law_166 : decode b_La_law 166 = .ok (.iconst 4, 1) := by decide +kernel
theorem d_La_law_167 : decode b_La_law 167 = .ok (.iadd, 1) := by decide +kernel
theorem d_La_law_168 : decode b_La_law 168 = .ok (.iaload, 1) := by decide +kernel
theorem d_La_law_169 : decode b_La_law 169 = .ok (.aload_n 0, 1) := by decide +kernel
theorem d_La_law_170 : decode b_La_law 170 = .ok (.iload 4, 2) := by decide +kernel
theorem d_La_law_172 : decode b_La_law 172 = .ok (.iconst 5, 1) := by decide +kernel
theorem d_La_law_173 : decode b_La_law 173 = .ok (.iadd, 1) := by decide +kernel
theorem d_La_law_174 : decode b_La_law 174 = .ok (.iaload, 1) := by decide +kernel
theorem d_La_law_175 : decode b_La_law 175 = .ok (.aload_n 0, 1) := by decide +kernel
theorem d_La_law_176 : decode b_La_law 176 = .ok (.iload 4, 2) := by decide +kernel
theorem d_La_law_178 : decode b_La_law 178 = .ok (.bipush 6, 2) := by decide +kernel
theorem d_La_law_180 : decode b_La_law 180 = .ok (.iadd, 1) := by decide +kernel
theorem d_La_law_181 : decode b_La_law 181 = .ok (.iaload, 1) := by decide +kernel
theorem d_La_law_182 : decode b_La_law 182 = .ok (.invokestatic 59, 3) := by decide +kernel
theorem d_La_law_185 : decode b_La_law 185 = .ok (.istore 5, 2) := by decide +kernel
theorem d_La_law_187 : decode b_La_law 187 = .ok (.aload_n 2, 1) := by decide +kernel
theorem d_La_law_188 : decode b_La_law 188 = .ok (.aload_n 0, 1) := by decide +kernel
theorem d_La_law_189 : decode b_La_law 189 = .ok (.iload 4, 2) := by decide +kernel
theorem d_La_law_191 : decode b_La_law 191 = .ok (.iconst 1, 1) := by decide +kernel
theorem d_La_law_192 : decode b_La_law 192 = .ok (.iadd, 1) := by decide +kernel
theorem d_La_law_193 : decode b_La_law 193 = .ok (.iaload, 1) := by decide +kernel
theorem d_La_law_194 : decode b_La_law 194 = .ok (.aload_n 0, 1) := by decide +kernel
theorem d_La_law_195 : decode b_La_law 195 = .ok (.iload 4, 2) := by decide +kernel
theorem d_La_law_197 : decode b_La_law 197 = .ok (.iconst 2, 1) := by decide +kernel
theorem d_La_law_198 : decode b_La_law 198 = .ok (.iadd, 1) := by decide +kernel
theorem d_La_law_199 : decode b_La_law 199 = .ok (.iaload, 1) := by decide +kernel
theorem d_La_law_200 : decode b_La_law 200 = .ok (.aload_n 0, 1) := by decide +kernel
theorem d_La_law_201 : decode b_La_law 201 = .ok (.iload 4, 2) := by decide +kernel
theorem d_La_law_203 : decode b_La_law 203 = .ok (.iconst 3, 1) := by decide +kernel
theorem d_La_law_204 : decode b_La_law 204 = .ok (.iadd, 1) := by decide +kernel
theorem d_La_law_205 : decode b_La_law 205 = .ok (.iaload, 1) := by decide +kernel
theorem d_La_law_206 : decode b_La_law 206 = .ok (.aload_n 0, 1) := by decide +kernel
theorem d_La_law_207 : decode b_La_law 207 = .ok (.iload 4, 2) := by decide +kernel
theorem d_La_law_209 : decode b_La_law 209 = .ok (.iconst 4, 1) := by decide +kernel
theorem d_La_law_210 : decode b_La_law 210 = .ok (.iadd, 1) := by decide +kernel
theorem d_La_law_211 : decode b_La_law 211 = .ok (.iaload, 1) := by decide +kernel
theorem d_La_law_212 : decode b_La_law 212 = .ok (.aload_n 0, 1) := by decide +kernel
theorem d_La_law_213 : decode b_La_law 213 = .ok (.iload 4, 2) := by decide +kernel
theorem d_La_law_215 : decode b_La_law 215 = .ok (.iconst 5, 1) := by decide +kernel
theorem d_La_law_216 : decode b_La_law 216 = .ok (.iadd, 1) := by decide +kernel
theorem d_La_law_217 : decode b_La_law 217 = .ok (.iaload, 1) := by decide +kernel
theorem d_La_law_218 : decode b_La_law 218 = .ok (.aload_n 0, 1) := by decide +kernel
theorem d_La_law_219 : decode b_La_law 219 = .ok (.iload 4, 2) := by decide +kernel
theorem d_La_law_221 : decode b_La_law 221 = .ok (.bipush 6, 2) := by decide +kernel
theorem d_La_law_223 : decode b_La_law 223 = .ok (.iadd, 1) := by decide +kernel
theorem d_La_law_224 : decode b_La_law 224 = .ok (.iaload, 1) := by decide +kernel
theorem d_La_law_225 : decode b_La_law 225 = .ok (.invokevirtual 62, 3) := by decide +kernel
theorem d_La_law_228 : decode b_La_law 228 = .ok (.aload_n 2, 1) := by decide +kernel
theorem d_La_law_229 : decode b_La_law 229 = .ok (.invokevirtual 63, 3) := by decide +kernel
theorem d_La_law_232 : decode b_La_law 232 = .ok (.iload 5, 2) := by decide +kernel
theorem d_La_law_234 : decode b_La_law 234 = .ok (.if_icmp .eq 5, 3) := by decide +kernel
theorem d_La_law_237 : decode b_La_law 237 = .ok (.iconst 0, 1) := by decide +kernel
theorem d_La_law_238 : decode b_La_law 238 = .ok (.ireturn, 1) := by decide +kernel
theorem d_La_law_239 : decode b_La_law 239 = .ok (.goto 589, 3) := by decide +kernel
theorem d_La_law_242 : decode b_La_law 242 = .ok (.aload_n 1, 1) := by decide +kernel
theorem d_La_law_243 : decode b_La_law 243 = .ok (.aload_n 0, 1) := by decide +kernel
theorem d_La_law_244 : decode b_La_law 244 = .ok (.iload 4, 2) := by decide +kernel
theorem d_La_law_246 : decode b_La_law 246 = .ok (.iconst 1, 1) := by decide +kernel
theorem d_La_law_247 : decode b_La_law 247 = .ok (.iadd, 1) := by decide +kernel
theorem d_La_law_248 : decode b_La_law 248 = .ok (.iaload, 1) := by decide +kernel
theorem d_La_law_249 : decode b_La_law 249 = .ok (.aload_n 0, 1) := by decide +kernel
theorem d_La_law_250 : decode b_La_law 250 = .ok (.iload 4, 2) := by decide +kernel
theorem d_La_law_252 : decode b_La_law 252 = .ok (.iconst 2, 1) := by decide +kernel
theorem d_La_law_253 : decode b_La_law 253 = .ok (.iadd, 1) := by decide +kernel
theorem d_La_law_254 : decode b_La_law 254 = .ok (.iaload, 1) := by decide +kernel
theorem d_La_law_255 : decode b_La_law 255 = .ok (.aload_n 3, 1) := by decide +kernel
theorem d_La_law_256 : decode b_La_law 256 = .ok (.invokestatic 66, 3) := by decide +kernel
theorem d_La_law_259 : decode b_La_law 259 = .ok (.istore 5, 2) := by decide +kernel
theorem d_La_law_261 : decode b_La_law 261 = .ok (.aload_n 2, 1) := by decide +kernel
theorem d_La_law_262 : decode b_La_law 262 = .ok (.aload_n 0, 1) := by decide +kernel
theorem d_La_law_263 : decode b_La_law 263 = .ok (.iload 4, 2) := by decide +kernel
theorem d_La_law_265 : decode b_La_law 265 = .ok (.iconst 1, 1) := by decide +kernel
theorem d_La_law_266 : decode b_La_law 266 = .ok (.iadd, 1) := by decide +kernel
theorem d_La_law_267 : decode b_La_law 267 = .ok (.iaload, 1) := by decide +kernel
theorem d_La_law_268 : decode b_La_law 268 = .ok (.aload_n 0, 1) := by decide +kernel
theorem d_La_law_269 : decode b_La_law 269 = .ok (.iload 4, 2) := by decide +kernel
theorem d_La_law_271 : decode b_La_law 271 = .ok (.iconst 2, 1) := by decide +kernel
theorem d_La_law_272 : decode b_La_law 272 = .ok (.iadd, 1) := by decide +kernel
theorem d_La_law_273 : decode b_La_law 273 = .ok (.iaload, 1) := by decide +kernel
theorem d_La_law_274 : decode b_La_law 274 = .ok (.invokevirtual 69, 3) := by decide +kernel
theorem d_La_law_277 : decode b_La_law 277 = .ok (.istore 6, 2) := by decide +kernel
theorem d_La_law_279 : decode b_La_law 279 = .ok (.aload_n 2, 1) := by decide +kernel
theorem d_La_law_280 : decode b_La_law 280 = .ok (.invokevirtual 63, 3) := by decide +kernel
theorem d_La_law_283 : decode b_La_law 283 = .ok (.iload 5, 2) := by decide +kernel
theorem d_La_law_285 : decode b_La_law 285 = .ok (.if_icmp .eq 5, 3) := by decide +kernel
theorem d_La_law_288 : decode b_La_law 288 = .ok (.iconst 0, 1) := by decide +kernel
theorem d_La_law_289 : decode b_La_law 289 = .ok (.ireturn, 1) := by decide +kernel
theorem d_La_law_290 : decode b_La_law 290 = .ok (.iload 5, 2) := by decide +kernel
theorem d_La_law_292 : decode b_La_law 292 = .ok (.ifCond .ne 22, 3) := by decide +kernel
theorem d_La_law_295 : decode b_La_law 295 = .ok (.aload_n 3, 1) := by decide +kernel
theorem d_La_law_296 : decode b_La_law 296 = .ok (.iconst 0, 1) := by decide +kernel
theorem d_La_law_297 : decode b_La_law 297 = .ok (.laload, 1) := by decide +kernel
theorem d_La_law_298 : decode b_La_law 298 = .ok (.iload 6, 2) := by decide +kernel
theorem d_La_law_300 : decode b_La_law 300 = .ok (.ifCond .eq 7, 3) := by decide +kernel
theorem d_La_law_303 : decode b_La_law 303 = .ok (.lconst 1, 1) := by decide +kernel
theorem d_La_law_304 : decode b_La_law 304 = .ok (.goto 4, 3) := by decide +kernel
theorem d_La_law_307 : decode b_La_law 307 = .ok (.lconst 0, 1) := by decide +kernel
theorem d_La_law_308 : decode b_La_law 308 = .ok (.lcmp, 1) := by decide +kernel
theorem d_La_law_309 : decode b_La_law 309 = .ok (.ifCond .eq 5, 3) := by decide +kernel
theorem d_La_law_312 : decode b_La_law 312 = .ok (.iconst 0, 1) := by decide +kernel
theorem d_La_law_313 : decode b_La_law 313 = .ok (.ireturn, 1) := by decide +kernel
theorem d_La_law_314 : decode b_La_law 314 = .ok (.goto 514, 3) := by decide +kernel
theorem d_La_law_317 : decode b_La_law 317 = .ok (.aload_n 1, 1) := by decide +kernel
theorem d_La_law_318 : decode b_La_law 318 = .ok (.aload_n 0, 1) := by decide +kernel
theorem d_La_law_319 : decode b_La_law 319 = .ok (.iload 4, 2) := by decide +kernel
theorem d_La_law_321 : decode b_La_law 321 = .ok (.iconst 1, 1) := by decide +kernel
theorem d_La_law_322 : decode b_La_law 322 = .ok (.iadd, 1) := by decide +kernel
theorem d_La_law_323 : decode b_La_law 323 = .ok (.iaload, 1) := by decide +kernel
theorem d_La_law_324 : decode b_La_law 324 = .ok (.aload_n 0, 1) := by decide +kernel
theorem d_La_law_325 : decode b_La_law 325 = .ok (.iload 4, 2) := by decide +kernel
theorem d_La_law_327 : decode b_La_law 327 = .ok (.iconst 2, 1) := by decide +kernel
theorem d_La_law_328 : decode b_La_law 328 = .ok (.iadd, 1) := by decide +kernel
theorem d_La_law_329 : decode b_La_law 329 = .ok (.iaload, 1) := by decide +kernel
theorem d_La_law_330 : decode b_La_law 330 = .ok (.aload_n 0, 1) := by decide +kernel
theorem d_La_law_331 : decode b_La_law 331 = .ok (.iload 4, 2) := by decide +kernel
theorem d_La_law_333 : decode b_La_law 333 = .ok (.iconst 3, 1) := by decide +kernel
theorem d_La_law_334 : decode b_La_law 334 = .ok (.iadd, 1) := by decide +kernel
theorem d_La_law_335 : decode b_La_law 335 = .ok (.iaload, 1) := by decide +kernel
theorem d_La_law_336 : decode b_La_law 336 = .ok (.invokevirtual 70, 3) := by decide +kernel
theorem d_La_law_339 : decode b_La_law 339 = .ok (.aload_n 2, 1) := by decide +kernel
theorem d_La_law_340 : decode b_La_law 340 = .ok (.aload_n 0, 1) := by decide +kernel
theorem d_La_law_341 : decode b_La_law 341 = .ok (.iload 4, 2) := by decide +kernel
theorem d_La_law_343 : decode b_La_law 343 = .ok (.iconst 1, 1) := by decide +kernel
theorem d_La_law_344 : decode b_La_law 344 = .ok (.iadd, 1) := by decide +kernel
theorem d_La_law_345 : decode b_La_law 345 = .ok (.iaload, 1) := by decide +kernel
theorem d_La_law_346 : decode b_La_law 346 = .ok (.aload_n 0, 1) := by decide +kernel
theorem d_La_law_347 : decode b_La_law 347 = .ok (.iload 4, 2) := by decide +kernel
theorem d_La_law_349 : decode b_La_law 349 = .ok (.iconst 2, 1) := by decide +kernel
theorem d_La_law_350 : decode b_La_law 350 = .ok (.iadd, 1) := by decide +kernel
theorem d_La_law_351 : decode b_La_law 351 = .ok (.iaload, 1) := by decide +kernel
theorem d_La_law_352 : decode b_La_law 352 = .ok (.aload_n 0, 1) := by decide +kernel
theorem d_La_law_353 : decode b_La_law 353 = .ok (.iload 4, 2) := by decide +kernel
theorem d_La_law_355 : decode b_La_law 355 = .ok (.iconst 3, 1) := by decide +kernel
theorem d_La_law_356 : decode b_La_law 356 = .ok (.iadd, 1) := by decide +kernel
theorem d_La_law_357 : decode b_La_law 357 = .ok (.iaload, 1) := by decide +kernel
theorem d_La_law_358 : decode b_La_law 358 = .ok (.invokevirtual 74, 3) := by decide +kernel
theorem d_La_law_361 : decode b_La_law 361 = .ok (.if_icmp .eq 467, 3) := by decide +kernel
theorem d_La_law_364 : decode b_La_law 364 = .ok (.iconst 0, 1) := by decide +kernel
theorem d_La_law_365 : decode b_La_law 365 = .ok (.ireturn, 1) := by decide +kernel
theorem d_La_law_366 : decode b_La_law 366 = .ok (.aload_n 1, 1) := by decide +kernel
theorem d_La_law_367 : decode b_La_law 367 = .ok (.invokevirtual 75, 3) := by decide +kernel
theorem d_La_law_370 : decode b_La_law 370 = .ok (.aload_n 2, 1) := by decide +kernel
theorem d_La_law_371 : decode b_La_law 371 = .ok (.invokevirtual 78, 3) := by decide +kernel
theorem d_La_law_374 : decode b_La_law 374 = .ok (.goto 454, 3) := by decide +kernel
theorem d_La_law_377 : decode b_La_law 377 = .ok (.aload_n 1, 1) := by decide +kernel
theorem d_La_law_378 : decode b_La_law 378 = .ok (.aload_n 0, 1) := by decide +kernel
theorem d_La_law_379 : decode b_La_law 379 = .ok (.iload 4, 2) := by decide +kernel
theorem d_La_law_381 : decode b_La_law 381 = .ok (.iconst 1, 1) := by decide +kernel
theorem d_La_law_382 : decode b_La_law 382 = .ok (.iadd, 1) := by decide +kernel
theorem d_La_law_383 : decode b_La_law 383 = .ok (.iaload, 1) := by decide +kernel
theorem d_La_law_384 : decode b_La_law 384 = .ok (.aload_n 0, 1) := by decide +kernel
theorem d_La_law_385 : decode b_La_law 385 = .ok (.iload 4, 2) := by decide +kernel
theorem d_La_law_387 : decode b_La_law 387 = .ok (.iconst 2, 1) := by decide +kernel
theorem d_La_law_388 : decode b_La_law 388 = .ok (.iadd, 1) := by decide +kernel
theorem d_La_law_389 : decode b_La_law 389 = .ok (.iaload, 1) := by decide +kernel
theorem d_La_law_390 : decode b_La_law 390 = .ok (.aload_n 0, 1) := by decide +kernel
theorem d_La_law_391 : decode b_La_law 391 = .ok (.iload 4, 2) := by decide +kernel
theorem d_La_law_393 : decode b_La_law 393 = .ok (.iconst 3, 1) := by decide +kernel
theorem d_La_law_394 : decode b_La_law 394 = .ok (.iadd, 1) := by decide +kernel
theorem d_La_law_395 : decode b_La_law 395 = .ok (.iaload, 1) := by decide +kernel
theorem d_La_law_396 : decode b_La_law 396 = .ok (.aload_n 0, 1) := by decide +kernel
theorem d_La_law_397 : decode b_La_law 397 = .ok (.iload 4, 2) := by decide +kernel
theorem d_La_law_399 : decode b_La_law 399 = .ok (.iconst 4, 1) := by decide +kernel
theorem d_La_law_400 : decode b_La_law 400 = .ok (.iadd, 1) := by decide +kernel
theorem d_La_law_401 : decode b_La_law 401 = .ok (.iaload, 1) := by decide +kernel
theorem d_La_law_402 : decode b_La_law 402 = .ok (.aload_n 0, 1) := by decide +kernel
theorem d_La_law_403 : decode b_La_law 403 = .ok (.iload 4, 2) := by decide +kernel
theorem d_La_law_405 : decode b_La_law 405 = .ok (.iconst 5, 1) := by decide +kernel
theorem d_La_law_406 : decode b_La_law 406 = .ok (.iadd, 1) := by decide +kernel
theorem d_La_law_407 : decode b_La_law 407 = .ok (.iaload, 1) := by decide +kernel
theorem d_La_law_408 : decode b_La_law 408 = .ok (.aload_n 3, 1) := by decide +kernel
theorem d_La_law_409 : decode b_La_law 409 = .ok (.invokestatic 79, 3) := by decide +kernel
theorem d_La_law_412 : decode b_La_law 412 = .ok (.istore 5, 2) := by decide +kernel
theorem d_La_law_414 : decode b_La_law 414 = .ok (.aload_n 2, 1) := by decide +kernel
theorem d_La_law_415 : decode b_La_law 415 = .ok (.aload_n 0, 1) := by decide +kernel
theorem d_La_law_416 : decode b_La_law 416 = .ok (.iload 4, 2) := by decide +kernel
theorem d_La_law_418 : decode b_La_law 418 = .ok (.iconst 1, 1) := by decide +kernel
theorem d_La_law_419 : decode b_La_law 419 = .ok (.iadd, 1) := by decide +kernel
theorem d_La_law_420 : decode b_La_law 420 = .ok (.iaload, 1) := by decide +kernel
theorem d_La_law_421 : decode b_La_law 421 = .ok (.aload_n 0, 1) := by decide +kernel
theorem d_La_law_422 : decode b_La_law 422 = .ok (.iload 4, 2) := by decide +kernel
theorem d_La_law_424 : decode b_La_law 424 = .ok (.iconst 2, 1) := by decide +kernel
theorem d_La_law_425 : decode b_La_law 425 = .ok (.iadd, 1) := by decide +kernel
theorem d_La_law_426 : decode b_La_law 426 = .ok (.iaload, 1) := by decide +kernel
theorem d_La_law_427 : decode b_La_law 427 = .ok (.aload_n 0, 1) := by decide +kernel
theorem d_La_law_428 : decode b_La_law 428 = .ok (.iload 4, 2) := by decide +kernel
theorem d_La_law_430 : decode b_La_law 430 = .ok (.iconst 3, 1) := by decide +kernel
theorem d_La_law_431 : decode b_La_law 431 = .ok (.iadd, 1) := by decide +kernel
theorem d_La_law_432 : decode b_La_law 432 = .ok (.iaload, 1) := by decide +kernel
theorem d_La_law_433 : decode b_La_law 433 = .ok (.aload_n 0, 1) := by decide +kernel
theorem d_La_law_434 : decode b_La_law 434 = .ok (.iload 4, 2) := by decide +kernel
theorem d_La_law_436 : decode b_La_law 436 = .ok (.iconst 4, 1) := by decide +kernel
theorem d_La_law_437 : decode b_La_law 437 = .ok (.iadd, 1) := by decide +kernel
theorem d_La_law_438 : decode b_La_law 438 = .ok (.iaload, 1) := by decide +kernel
theorem d_La_law_439 : decode b_La_law 439 = .ok (.aload_n 0, 1) := by decide +kernel
theorem d_La_law_440 : decode b_La_law 440 = .ok (.iload 4, 2) := by decide +kernel
theorem d_La_law_442 : decode b_La_law 442 = .ok (.iconst 5, 1) := by decide +kernel
theorem d_La_law_443 : decode b_La_law 443 = .ok (.iadd, 1) := by decide +kernel
theorem d_La_law_444 : decode b_La_law 444 = .ok (.iaload, 1) := by decide +kernel
theorem d_La_law_445 : decode b_La_law 445 = .ok (.invokevirtual 82, 3) := by decide +kernel
theorem d_La_law_448 : decode b_La_law 448 = .ok (.istore 6, 2) := by decide +kernel
theorem d_La_law_450 : decode b_La_law 450 = .ok (.aload_n 2, 1) := by decide +kernel
theorem d_La_law_451 : decode b_La_law 451 = .ok (.invokevirtual 63, 3) := by decide +kernel
theorem d_La_law_454 : decode b_La_law 454 = .ok (.iload 5, 2) := by decide +kernel
theorem d_La_law_456 : decode b_La_law 456 = .ok (.if_icmp .eq 5, 3) := by decide +kernel
theorem d_La_law_459 : decode b_La_law 459 = .ok (.iconst 0, 1) := by decide +kernel
theorem d_La_law_460 : decode b_La_law 460 = .ok (.ireturn, 1) := by decide +kernel
theorem d_La_law_461 : decode b_La_law 461 = .ok (.iload 5, 2) := by decide +kernel
theorem d_La_law_463 : decode b_La_law 463 = .ok (.ifCond .ne 15, 3) := by decide +kernel
theorem d_La_law_466 : decode b_La_law 466 = .ok (.aload_n 3, 1) := by decide +kernel
theorem d_La_law_467 : decode b_La_law 467 = .ok (.iconst 0, 1) := by decide +kernel
theorem d_La_law_468 : decode b_La_law 468 = .ok (.laload, 1) := by decide +kernel
theorem d_La_law_469 : decode b_La_law 469 = .ok (.iload 6, 2) := by decide +kernel
theorem d_La_law_471 : decode b_La_law 471 = .ok (.i2l, 1) := by decide +kernel
theorem d_La_law_472 : decode b_La_law 472 = .ok (.lcmp, 1) := by decide +kernel
theorem d_La_law_473 : decode b_La_law 473 = .ok (.ifCond .eq 5, 3) := by decide +kernel
theorem d_La_law_476 : decode b_La_law 476 = .ok (.iconst 0, 1) := by decide +kernel
theorem d_La_law_477 : decode b_La_law 477 = .ok (.ireturn, 1) := by decide +kernel
theorem d_La_law_478 : decode b_La_law 478 = .ok (.goto 350, 3) := by decide +kernel
theorem d_La_law_481 : decode b_La_law 481 = .ok (.aload_n 1, 1) := by decide +kernel
theorem d_La_law_482 : decode b_La_law 482 = .ok (.invokevirtual 83, 3) := by decide +kernel
theorem d_La_law_485 : decode b_La_law 485 = .ok (.aload_n 2, 1) := by decide +kernel
theorem d_La_law_486 : decode b_La_law 486 = .ok (.invokevirtual 86, 3) := by decide +kernel
theorem d_La_law_489 : decode b_La_law 489 = .ok (.if_icmp .eq 339, 3) := by decide +kernel
theorem d_La_law_492 : decode b_La_law 492 = .ok (.iconst 0, 1) := by decide +kernel
theorem d_La_law_493 : decode b_La_law 493 = .ok (.ireturn, 1) := by decide +kernel
theorem d_La_law_494 : decode b_La_law 494 = .ok (.aload_n 1, 1) := by decide +kernel
theorem d_La_law_495 : decode b_La_law 495 = .ok (.aload_n 3, 1) := by decide +kernel
theorem d_La_law_496 : decode b_La_law 496 = .ok (.invokestatic 87, 3) := by decide +kernel
theorem d_La_law_499 : decode b_La_law 499 = .ok (.istore 5, 2) := by decide +kernel
theorem d_La_law_501 : decode b_La_law 501 = .ok (.aload_n 2, 1) := by decide +kernel
theorem d_La_law_502 : decode b_La_law 502 = .ok (.invokevirtual 90, 3) := by decide +kernel
theorem d_La_law_505 : decode b_La_law 505 = .ok (.istore 6, 2) := by decide +kernel
theorem d_La_law_507 : decode b_La_law 507 = .ok (.aload_n 2, 1) := by decide +kernel
theorem d_La_law_508 : decode b_La_law 508 = .ok (.invokevirtual 63, 3) := by decide +kernel
theorem d_La_law_511 : decode b_La_law 511 = .ok (.iload 5, 2) := by decide +kernel
theorem d_La_law_513 : decode b_La_law 513 = .ok (.if_icmp .eq 5, 3) := by decide +kernel
theorem d_La_law_516 : decode b_La_law 516 = .ok (.iconst 0, 1) := by decide +kernel
theorem d_La_law_517 : decode b_La_law 517 = .ok (.ireturn, 1) := by decide +kernel
theorem d_La_law_518 : decode b_La_law 518 = .ok (.iload 5, 2) := by decide +kernel
theorem d_La_law_520 : decode b_La_law 520 = .ok (.ifCond .ne 15, 3) := by decide +kernel
theorem d_La_law_523 : decode b_La_law 523 = .ok (.aload_n 3, 1) := by decide +kernel
theorem d_La_law_524 : decode b_La_law 524 = .ok (.iconst 0, 1) := by decide +kernel
theorem d_La_law_525 : decode b_La_law 525 = .ok (.laload, 1) := by decide +kernel
theorem d_La_law_526 : decode b_La_law 526 = .ok (.iload 6, 2) := by decide +kernel
theorem d_La_law_528 : decode b_La_law 528 = .ok (.i2l, 1) := by decide +kernel
theorem d_La_law_529 : decode b_La_law 529 = .ok (.lcmp, 1) := by decide +kernel
theorem d_La_law_530 : decode b_La_law 530 = .ok (.ifCond .eq 5, 3) := by decide +kernel
theorem d_La_law_533 : decode b_La_law 533 = .ok (.iconst 0, 1) := by decide +kernel
theorem d_La_law_534 : decode b_La_law 534 = .ok (.ireturn, 1) := by decide +kernel
theorem d_La_law_535 : decode b_La_law 535 = .ok (.goto 293, 3) := by decide +kernel
theorem d_La_law_538 : decode b_La_law 538 = .ok (.aload_n 1, 1) := by decide +kernel
theorem d_La_law_539 : decode b_La_law 539 = .ok (.invokevirtual 91, 3) := by decide +kernel
theorem d_La_law_542 : decode b_La_law 542 = .ok (.aload_n 2, 1) := by decide +kernel
theorem d_La_law_543 : decode b_La_law 543 = .ok (.invokevirtual 94, 3) := by decide +kernel
theorem d_La_law_546 : decode b_La_law 546 = .ok (.if_icmp .eq 282, 3) := by decide +kernel
theorem d_La_law_549 : decode b_La_law 549 = .ok (.iconst 0, 1) := by decide +kernel
theorem d_La_law_550 : decode b_La_law 550 = .ok (.ireturn, 1) := by decide +kernel
theorem d_La_law_551 : decode b_La_law 551 = .ok (.aload_n 1, 1) := by decide +kernel
theorem d_La_law_552 : decode b_La_law 552 = .ok (.aload_n 0, 1) := by decide +kernel
theorem d_La_law_553 : decode b_La_law 553 = .ok (.iload 4, 2) := by decide +kernel
theorem d_La_law_555 : decode b_La_law 555 = .ok (.iconst 1, 1) := by decide +kernel
theorem d_La_law_556 : decode b_La_law 556 = .ok (.iadd, 1) := by decide +kernel
theorem d_La_law_557 : decode b_La_law 557 = .ok (.iaload, 1) := by decide +kernel
theorem d_La_law_558 : decode b_La_law 558 = .ok (.invokevirtual 95, 3) := by decide +kernel
theorem d_La_law_561 : decode b_La_law 561 = .ok (.aload_n 2, 1) := by decide +kernel
theorem d_La_law_562 : decode b_La_law 562 = .ok (.aload_n 0, 1) := by decide +kernel
theorem d_La_law_563 : decode b_La_law 563 = .ok (.iload 4, 2) := by decide +kernel
theorem d_La_law_565 : decode b_La_law 565 = .ok (.iconst 1, 1) := by decide +kernel
theorem d_La_law_566 : decode b_La_law 566 = .ok (.iadd, 1) := by decide +kernel
theorem d_La_law_567 : decode b_La_law 567 = .ok (.iaload, 1) := by decide +kernel
theorem d_La_law_568 : decode b_La_law 568 = .ok (.invokevirtual 98, 3) := by decide +kernel
theorem d_La_law_571 : decode b_La_law 571 = .ok (.if_icmp .eq 257, 3) := by decide +kernel
theorem d_La_law_574 : decode b_La_law 574 = .ok (.iconst 0, 1) := by decide +kernel
theorem d_La_law_575 : decode b_La_law 575 = .ok (.ireturn, 1) := by decide +kernel
theorem d_La_law_576 : decode b_La_law 576 = .ok (.aload_n 1, 1) := by decide +kernel
theorem d_La_law_577 : decode b_La_law 577 = .ok (.invokevirtual 99, 3) := by decide +kernel
theorem d_La_law_580 : decode b_La_law 580 = .ok (.aload_n 2, 1) := by decide +kernel
theorem d_La_law_581 : decode b_La_law 581 = .ok (.invokevirtual 102, 3) := by decide +kernel
theorem d_La_law_584 : decode b_La_law 584 = .ok (.goto 244, 3) := by decide +kernel
theorem d_La_law_587 : decode b_La_law 587 = .ok (.aload_n 1, 1) := by decide +kernel
theorem d_La_law_588 : decode b_La_law 588 = .ok (.aload_n 0, 1) := by decide +kernel
theorem d_La_law_589 : decode b_La_law 589 = .ok (.iload 4, 2) := by decide +kernel
theorem d_La_law_591 : decode b_La_law 591 = .ok (.iconst 1, 1) := by decide +kernel
theorem d_La_law_592 : decode b_La_law 592 = .ok (.iadd, 1) := by decide +kernel
theorem d_La_law_593 : decode b_La_law 593 = .ok (.iaload, 1) := by decide +kernel
theorem d_La_law_594 : decode b_La_law 594 = .ok (.aload_n 3, 1) := by decide +kernel
theorem d_La_law_595 : decode b_La_law 595 = .ok (.invokestatic 103, 3) := by decide +kernel
theorem d_La_law_598 : decode b_La_law 598 = .ok (.istore 5, 2) := by decide +kernel
theorem d_La_law_600 : decode b_La_law 600 = .ok (.aload_n 2, 1) := by decide +kernel
theorem d_La_law_601 : decode b_La_law 601 = .ok (.aload_n 0, 1) := by decide +kernel
theorem d_La_law_602 : decode b_La_law 602 = .ok (.iload 4, 2) := by decide +kernel
theorem d_La_law_604 : decode b_La_law 604 = .ok (.iconst 1, 1) := by decide +kernel
theorem d_La_law_605 : decode b_La_law 605 = .ok (.iadd, 1) := by decide +kernel
theorem d_La_law_606 : decode b_La_law 606 = .ok (.iaload, 1) := by decide +kernel
theorem d_La_law_607 : decode b_La_law 607 = .ok (.invokevirtual 106, 3) := by decide +kernel
theorem d_La_law_610 : decode b_La_law 610 = .ok (.istore 6, 2) := by decide +kernel
theorem d_La_law_612 : decode b_La_law 612 = .ok (.aload_n 2, 1) := by decide +kernel
theorem d_La_law_613 : decode b_La_law 613 = .ok (.invokevirtual 63, 3) := by decide +kernel
theorem d_La_law_616 : decode b_La_law 616 = .ok (.iload 5, 2) := by decide +kernel
theorem d_La_law_618 : decode b_La_law 618 = .ok (.if_icmp .eq 5, 3) := by decide +kernel
theorem d_La_law_621 : decode b_La_law 621 = .ok (.iconst 0, 1) := by decide +kernel
theorem d_La_law_622 : decode b_La_law 622 = .ok (.ireturn, 1) := by decide +kernel
theorem d_La_law_623 : decode b_La_law 623 = .ok (.iload 5, 2) := by decide +kernel
theorem d_La_law_625 : decode b_La_law 625 = .ok (.ifCond .ne 15, 3) := by decide +kernel
theorem d_La_law_628 : decode b_La_law 628 = .ok (.aload_n 3, 1) := by decide +kernel
theorem d_La_law_629 : decode b_La_law 629 = .ok (.iconst 0, 1) := by decide +kernel
theorem d_La_law_630 : decode b_La_law 630 = .ok (.laload, 1) := by decide +kernel
theorem d_La_law_631 : decode b_La_law 631 = .ok (.iload 6, 2) := by decide +kernel
theorem d_La_law_633 : decode b_La_law 633 = .ok (.i2l, 1) := by decide +kernel
theorem d_La_law_634 : decode b_La_law 634 = .ok (.lcmp, 1) := by decide +kernel
theorem d_La_law_635 : decode b_La_law 635 = .ok (.ifCond .eq 5, 3) := by decide +kernel
theorem d_La_law_638 : decode b_La_law 638 = .ok (.iconst 0, 1) := by decide +kernel
theorem d_La_law_639 : decode b_La_law 639 = .ok (.ireturn, 1) := by decide +kernel
theorem d_La_law_640 : decode b_La_law 640 = .ok (.goto 188, 3) := by decide +kernel
theorem d_La_law_643 : decode b_La_law 643 = .ok (.aload_n 1, 1) := by decide +kernel
theorem d_La_law_644 : decode b_La_law 644 = .ok (.aload_n 0, 1) := by decide +kernel
theorem d_La_law_645 : decode b_La_law 645 = .ok (.iload 4, 2) := by decide +kernel
theorem d_La_law_647 : decode b_La_law 647 = .ok (.iconst 1, 1) := by decide +kernel
theorem d_La_law_648 : decode b_La_law 648 = .ok (.iadd, 1) := by decide +kernel
theorem d_La_law_649 : decode b_La_law 649 = .ok (.iaload, 1) := by decide +kernel
theorem d_La_law_650 : decode b_La_law 650 = .ok (.aload_n 0, 1) := by decide +kernel
theorem d_La_law_651 : decode b_La_law 651 = .ok (.iload 4, 2) := by decide +kernel
theorem d_La_law_653 : decode b_La_law 653 = .ok (.iconst 2, 1) := by decide +kernel
theorem d_La_law_654 : decode b_La_law 654 = .ok (.iadd, 1) := by decide +kernel
theorem d_La_law_655 : decode b_La_law 655 = .ok (.iaload, 1) := by decide +kernel
theorem d_La_law_656 : decode b_La_law 656 = .ok (.invokestatic 107, 3) := by decide +kernel
theorem d_La_law_659 : decode b_La_law 659 = .ok (.istore 5, 2) := by decide +kernel
theorem d_La_law_661 : decode b_La_law 661 = .ok (.aload_n 2, 1) := by decide +kernel
theorem d_La_law_662 : decode b_La_law 662 = .ok (.aload_n 0, 1) := by decide +kernel
theorem d_La_law_663 : decode b_La_law 663 = .ok (.iload 4, 2) := by decide +kernel
theorem d_La_law_665 : decode b_La_law 665 = .ok (.iconst 1, 1) := by decide +kernel
theorem d_La_law_666 : decode b_La_law 666 = .ok (.iadd, 1) := by decide +kernel
theorem d_La_law_667 : decode b_La_law 667 = .ok (.iaload, 1) := by decide +kernel
theorem d_La_law_668 : decode b_La_law 668 = .ok (.aload_n 0, 1) := by decide +kernel
theorem d_La_law_669 : decode b_La_law 669 = .ok (.iload 4, 2) := by decide +kernel
theorem d_La_law_671 : decode b_La_law 671 = .ok (.iconst 2, 1) := by decide +kernel
theorem d_La_law_672 : decode b_La_law 672 = .ok (.iadd, 1) := by decide +kernel
theorem d_La_law_673 : decode b_La_law 673 = .ok (.iaload, 1) := by decide +kernel
theorem d_La_law_674 : decode b_La_law 674 = .ok (.invokevirtual 110, 3) := by decide +kernel
theorem d_La_law_677 : decode b_La_law 677 = .ok (.aload_n 2, 1) := by decide +kernel
theorem d_La_law_678 : decode b_La_law 678 = .ok (.invokevirtual 63, 3) := by decide +kernel
theorem d_La_law_681 : decode b_La_law 681 = .ok (.iload 5, 2) := by decide +kernel
theorem d_La_law_683 : decode b_La_law 683 = .ok (.if_icmp .eq 5, 3) := by decide +kernel
theorem d_La_law_686 : decode b_La_law 686 = .ok (.iconst 0, 1) := by decide +kernel
theorem d_La_law_687 : decode b_La_law 687 = .ok (.ireturn, 1) := by decide +kernel
theorem d_La_law_688 : decode b_La_law 688 = .ok (.goto 140, 3) := by decide +kernel
theorem d_La_law_691 : decode b_La_law 691 = .ok (.aload_n 1, 1) := by decide +kernel
theorem d_La_law_692 : decode b_La_law 692 = .ok (.aload_n 0, 1) := by decide +kernel
theorem d_La_law_693 : decode b_La_law 693 = .ok (.iload 4, 2) := by decide +kernel
theorem d_La_law_695 : decode b_La_law 695 = .ok (.iconst 1, 1) := by decide +kernel
theorem d_La_law_696 : decode b_La_law 696 = .ok (.iadd, 1) := by decide +kernel
theorem d_La_law_697 : decode b_La_law 697 = .ok (.iaload, 1) := by decide +kernel
theorem d_La_law_698 : decode b_La_law 698 = .ok (.aload_n 3, 1) := by decide +kernel
theorem d_La_law_699 : decode b_La_law 699 = .ok (.invokestatic 111, 3) := by decide +kernel
theorem d_La_law_702 : decode b_La_law 702 = .ok (.istore 5, 2) := by decide +kernel
theorem d_La_law_704 : decode b_La_law 704 = .ok (.aload_n 2, 1) := by decide +kernel
theorem d_La_law_705 : decode b_La_law 705 = .ok (.aload_n 0, 1) := by decide +kernel
theorem d_La_law_706 : decode b_La_law 706 = .ok (.iload 4, 2) := by decide +kernel
theorem d_La_law_708 : decode b_La_law 708 = .ok (.iconst 1, 1) := by decide +kernel
theorem d_La_law_709 : decode b_La_law 709 = .ok (.iadd, 1) := by decide +kernel
theorem d_La_law_710 : decode b_La_law 710 = .ok (.iaload, 1) := by decide +kernel
theorem d_La_law_711 : decode b_La_law 711 = .ok (.invokevirtual 113, 3) := by decide +kernel
theorem d_La_law_714 : decode b_La_law 714 = .ok (.istore 6, 2) := by decide +kernel
theorem d_La_law_716 : decode b_La_law 716 = .ok (.aload_n 2, 1) := by decide +kernel
theorem d_La_law_717 : decode b_La_law 717 = .ok (.invokevirtual 63, 3) := by decide +kernel
theorem d_La_law_720 : decode b_La_law 720 = .ok (.iload 5, 2) := by decide +kernel
theorem d_La_law_722 : decode b_La_law 722 = .ok (.if_icmp .eq 5, 3) := by decide +kernel
theorem d_La_law_725 : decode b_La_law 725 = .ok (.iconst 0, 1) := by decide +kernel
theorem d_La_law_726 : decode b_La_law 726 = .ok (.ireturn, 1) := by decide +kernel
theorem d_La_law_727 : decode b_La_law 727 = .ok (.iload 5, 2) := by decide +kernel
theorem d_La_law_729 : decode b_La_law 729 = .ok (.ifCond .ne 15, 3) := by decide +kernel
theorem d_La_law_732 : decode b_La_law 732 = .ok (.aload_n 3, 1) := by decide +kernel
theorem d_La_law_733 : decode b_La_law 733 = .ok (.iconst 0, 1) := by decide +kernel
theorem d_La_law_734 : decode b_La_law 734 = .ok (.laload, 1) := by decide +kernel
theorem d_La_law_735 : decode b_La_law 735 = .ok (.iload 6, 2) := by decide +kernel
theorem d_La_law_737 : decode b_La_law 737 = .ok (.i2l, 1) := by decide +kernel
theorem d_La_law_738 : decode b_La_law 738 = .ok (.lcmp, 1) := by decide +kernel
theorem d_La_law_739 : decode b_La_law 739 = .ok (.ifCond .eq 5, 3) := by decide +kernel
theorem d_La_law_742 : decode b_La_law 742 = .ok (.iconst 0, 1) := by decide +kernel
theorem d_La_law_743 : decode b_La_law 743 = .ok (.ireturn, 1) := by decide +kernel
theorem d_La_law_744 : decode b_La_law 744 = .ok (.goto 84, 3) := by decide +kernel
theorem d_La_law_747 : decode b_La_law 747 = .ok (.aload_n 1, 1) := by decide +kernel
theorem d_La_law_748 : decode b_La_law 748 = .ok (.aload_n 0, 1) := by decide +kernel
theorem d_La_law_749 : decode b_La_law 749 = .ok (.iload 4, 2) := by decide +kernel
theorem d_La_law_751 : decode b_La_law 751 = .ok (.iconst 1, 1) := by decide +kernel
theorem d_La_law_752 : decode b_La_law 752 = .ok (.iadd, 1) := by decide +kernel
theorem d_La_law_753 : decode b_La_law 753 = .ok (.iaload, 1) := by decide +kernel
theorem d_La_law_754 : decode b_La_law 754 = .ok (.invokevirtual 114, 3) := by decide +kernel
theorem d_La_law_757 : decode b_La_law 757 = .ok (.aload_n 2, 1) := by decide +kernel
theorem d_La_law_758 : decode b_La_law 758 = .ok (.aload_n 0, 1) := by decide +kernel
theorem d_La_law_759 : decode b_La_law 759 = .ok (.iload 4, 2) := by decide +kernel
theorem d_La_law_761 : decode b_La_law 761 = .ok (.iconst 1, 1) := by decide +kernel
theorem d_La_law_762 : decode b_La_law 762 = .ok (.iadd, 1) := by decide +kernel
theorem d_La_law_763 : decode b_La_law 763 = .ok (.iaload, 1) := by decide +kernel
theorem d_La_law_764 : decode b_La_law 764 = .ok (.invokevirtual 117, 3) := by decide +kernel
theorem d_La_law_767 : decode b_La_law 767 = .ok (.if_icmp .eq 61, 3) := by decide +kernel
theorem d_La_law_770 : decode b_La_law 770 = .ok (.iconst 0, 1) := by decide +kernel
theorem d_La_law_771 : decode b_La_law 771 = .ok (.ireturn, 1) := by decide +kernel
theorem d_La_law_772 : decode b_La_law 772 = .ok (.aload_n 1, 1) := by decide +kernel
theorem d_La_law_773 : decode b_La_law 773 = .ok (.aload_n 0, 1) := by decide +kernel
theorem d_La_law_774 : decode b_La_law 774 = .ok (.iload 4, 2) := by decide +kernel
theorem d_La_law_776 : decode b_La_law 776 = .ok (.iconst 1, 1) := by decide +kernel
theorem d_La_law_777 : decode b_La_law 777 = .ok (.iadd, 1) := by decide +kernel
theorem d_La_law_778 : decode b_La_law 778 = .ok (.iaload, 1) := by decide +kernel
theorem d_La_law_779 : decode b_La_law 779 = .ok (.aload_n 3, 1) := by decide +kernel
theorem d_La_law_780 : decode b_La_law 780 = .ok (.invokestatic 118, 3) := by decide +kernel
theorem d_La_law_783 : decode b_La_law 783 = .ok (.istore 5, 2) := by decide +kernel
theorem d_La_law_785 : decode b_La_law 785 = .ok (.aload_n 2, 1) := by decide +kernel
theorem d_La_law_786 : decode b_La_law 786 = .ok (.aload_n 0, 1) := by decide +kernel
theorem d_La_law_787 : decode b_La_law 787 = .ok (.iload 4, 2) := by decide +kernel
theorem d_La_law_789 : decode b_La_law 789 = .ok (.iconst 1, 1) := by decide +kernel
theorem d_La_law_790 : decode b_La_law 790 = .ok (.iadd, 1) := by decide +kernel
theorem d_La_law_791 : decode b_La_law 791 = .ok (.iaload, 1) := by decide +kernel
theorem d_La_law_792 : decode b_La_law 792 = .ok (.invokevirtual 120, 3) := by decide +kernel
theorem d_La_law_795 : decode b_La_law 795 = .ok (.istore 6, 2) := by decide +kernel
theorem d_La_law_797 : decode b_La_law 797 = .ok (.aload_n 2, 1) := by decide +kernel
theorem d_La_law_798 : decode b_La_law 798 = .ok (.invokevirtual 63, 3) := by decide +kernel
theorem d_La_law_801 : decode b_La_law 801 = .ok (.iload 5, 2) := by decide +kernel
theorem d_La_law_803 : decode b_La_law 803 = .ok (.if_icmp .eq 5, 3) := by decide +kernel
theorem d_La_law_806 : decode b_La_law 806 = .ok (.iconst 0, 1) := by decide +kernel
theorem d_La_law_807 : decode b_La_law 807 = .ok (.ireturn, 1) := by decide +kernel
theorem d_La_law_808 : decode b_La_law 808 = .ok (.iload 5, 2) := by decide +kernel
theorem d_La_law_810 : decode b_La_law 810 = .ok (.ifCond .ne 15, 3) := by decide +kernel
theorem d_La_law_813 : decode b_La_law 813 = .ok (.aload_n 3, 1) := by decide +kernel
theorem d_La_law_814 : decode b_La_law 814 = .ok (.iconst 0, 1) := by decide +kernel
theorem d_La_law_815 : decode b_La_law 815 = .ok (.laload, 1) := by decide +kernel
theorem d_La_law_816 : decode b_La_law 816 = .ok (.iload 6, 2) := by decide +kernel
theorem d_La_law_818 : decode b_La_law 818 = .ok (.i2l, 1) := by decide +kernel
theorem d_La_law_819 : decode b_La_law 819 = .ok (.lcmp, 1) := by decide +kernel
theorem d_La_law_820 : decode b_La_law 820 = .ok (.ifCond .eq 5, 3) := by decide +kernel
theorem d_La_law_823 : decode b_La_law 823 = .ok (.iconst 0, 1) := by decide +kernel
theorem d_La_law_824 : decode b_La_law 824 = .ok (.ireturn, 1) := by decide +kernel
theorem d_La_law_825 : decode b_La_law 825 = .ok (.goto 3, 3) := by decide +kernel
theorem d_La_law_828 : decode b_La_law 828 = .ok (.iinc 4 7, 3) := by decide +kernel
theorem d_La_law_831 : decode b_La_law 831 = .ok (.goto (-778), 3) := by decide +kernel
theorem d_La_law_834 : decode b_La_law 834 = .ok (.iconst 1, 1) := by decide +kernel
theorem d_La_law_835 : decode b_La_law 835 = .ok (.ireturn, 1) := by decide +kernel
