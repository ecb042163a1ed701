theorem wd_991 : Cond.selects RX5 yX5_placementOf yX5_placementOf ∈ hw_tbl := hw_sub (List.mem_of_getElem? (i := 1108) (by decide +kernel)) rfl
theorem wd_137 : Cond.fieldLink RX5 40 RX7 "failed" "I" ∈ hw_tbl := hw_sub (List.mem_of_getElem? (i := 254) (by decide +kernel)) rfl
theorem wd_1009 : Cond.methodLink RX5 45 Lib.Math.min.name ∈ hw_tbl := hw_sub (List.mem_of_getElem? (i := 1126) (by decide +kernel)) rfl
theorem wd_1010 : Cond.methodLink RX5 51 yX7_numberAt ∈ hw_tbl := hw_sub (List.mem_of_getElem? (i := 1127) (by decide +kernel)) rfl
theorem wd_1008 : Cond.code yX5_describe cX5_describe 7 none ∈ hw_tbl := hw_sub (List.mem_of_getElem? (i := 1125) (by decide +kernel)) rfl
theorem wd_1007 : Cond.instanceMethod yX5_describe ∈ hw_tbl := hw_sub (List.mem_of_getElem? (i := 1124) (by decide +kernel)) rfl
theorem ws_46 : Cond.selects RX5 yX5_describe yX5_describe ∈ hw_tbl := hw_sub (List.mem_of_getElem? (i := 46) (by decide +kernel)) rfl
theorem wd_1014 : Cond.code yX5_isAlike cX5_isAlike 4 (some .boolean) ∈ hw_tbl := hw_sub (List.mem_of_getElem? (i := 1131) (by decide +kernel)) rfl
theorem wd_1013 : Cond.instanceMethod yX5_isAlike ∈ hw_tbl := hw_sub (List.mem_of_getElem? (i := 1130) (by decide +kernel)) rfl
theorem ws_47 : Cond.selects RX5 yX5_isAlike yX5_isAlike ∈ hw_tbl := hw_sub (List.mem_of_getElem? (i := 47) (by decide +kernel)) rfl
theorem wd_1005 : Cond.methodLink RX5 32 yX5_describe ∈ hw_tbl := hw_sub (List.mem_of_getElem? (i := 1122) (by decide +kernel)) rfl
theorem wd_1011 : Cond.methodLink RX5 36 yX5_isAlike ∈ hw_tbl := hw_sub (List.mem_of_getElem? (i := 1128) (by decide +kernel)) rfl
theorem wd_1004 : Cond.code yX5_partWith cX5_partWith 3 (some .int) ∈ hw_tbl := hw_sub (List.mem_of_getElem? (i := 1121) (by decide +kernel)) rfl
theorem wd_1002 : Cond.instanceMethod yX5_partWith ∈ hw_tbl := hw_sub (List.mem_of_getElem? (i := 1119) (by decide +kernel)) rfl
theorem wd_1003 : Cond.selects RX5 yX5_partWith yX5_partWith ∈ hw_tbl := hw_sub (List.mem_of_getElem? (i := 1120) (by decide +kernel)) rfl
theorem wd_688 : Cond.methodLink RX4 3 Lib.objectInit ∈ hw_tbl := hw_sub (List.mem_of_getElem? (i := 805) (by decide +kernel)) rfl
theorem wd_693 : Cond.fieldLink RX4 9 RX4 "answers" "[I" ∈ hw_tbl := hw_sub (List.mem_of_getElem? (i := 810) (by decide +kernel)) rfl
theorem wd_694 : Cond.fieldLink RX4 15 RX4 "walks" "[J" ∈ hw_tbl := hw_sub (List.mem_of_getElem? (i := 811) (by decide +kernel)) rfl
theorem wd_695 : Cond.fieldLink RX4 19 RX4 "stepLength" "[I" ∈ hw_tbl := hw_sub (List.mem_of_getElem? (i := 812) (by decide +kernel)) rfl
theorem wd_743 : Cond.arrayClass .boolean ∈ hw_tbl := hw_sub (List.mem_of_getElem? (i := 860) (by decide +kernel)) rfl
theorem wd_696 : Cond.fieldLink RX4 22 RX4 "stepDown" "[Z" ∈ hw_tbl := hw_sub (List.mem_of_getElem? (i := 813) (by decide +kernel)) rfl
theorem wd_697 : Cond.fieldLink RX4 26 RX4 "stepActs" "[I" ∈ hw_tbl := hw_sub (List.mem_of_getElem? (i := 814) (by decide +kernel)) rfl
theorem wd_698 : Cond.fieldLink RX4 29 RX4 "moves" "[I" ∈ hw_tbl := hw_sub (List.mem_of_getElem? (i := 815) (by decide +kernel)) rfl
theorem wd_699 : Cond.fieldLink RX4 32 RX4 "kindsLearned" "I" ∈ hw_tbl := hw_sub (List.mem_of_getElem? (i := 816) (by decide +kernel)) rfl
theorem wd_700 : Cond.fieldLink RX4 36 RX4 "chosen" "[I" ∈ hw_tbl := hw_sub (List.mem_of_getElem? (i := 817) (by decide +kernel)) rfl
theorem wd_701 : Cond.fieldLink RX4 39 RX4 "width" "I" ∈ hw_tbl := hw_sub (List.mem_of_getElem? (i := 818) (by decide +kernel)) rfl
theorem wd_702 : Cond.fieldLink RX4 42 RX4 "size" "I" ∈ hw_tbl := hw_sub (List.mem_of_getElem? (i := 819) (by decide +kernel)) rfl
theorem wd_703 : Cond.fieldLink RX4 45 RX4 "codes" "[I" ∈ hw_tbl := hw_sub (List.mem_of_getElem? (i := 820) (by decide +kernel)) rfl
theorem wd_704 : Cond.fieldLink RX4 48 RX4 "sounds" "[I" ∈ hw_tbl := hw_sub (List.mem_of_getElem? (i := 821) (by decide +kernel)) rfl
theorem wd_705 : Cond.fieldLink RX4 51 RX4 "parents" "[I" ∈ hw_tbl := hw_sub (List.mem_of_getElem? (i := 822) (by decide +kernel)) rfl
theorem wd_706 : Cond.fieldLink RX4 54 RX4 "steps" "[I" ∈ hw_tbl := hw_sub (List.mem_of_getElem? (i := 823) (by decide +kernel)) rfl
theorem wd_707 : Cond.fieldLink RX4 57 RX4 "slots" "[I" ∈ hw_tbl := hw_sub (List.mem_of_getElem? (i := 824) (by decide +kernel)) rfl
theorem wd_708 : Cond.fieldLink RX4 60 RX4 "levelStart" "[I" ∈ hw_tbl := hw_sub (List.mem_of_getElem? (i := 825) (by decide +kernel)) rfl
theorem wd_689 : Cond.fieldLink RX4 63 RX4 "FIRST_STEP" "[I" ∈ hw_tbl := hw_sub (List.mem_of_getElem? (i := 806) (by decide +kernel)) rfl
theorem wd_691 : Cond.fieldLink RX4 66 RX4 "ONE_WAY" "[I" ∈ hw_tbl := hw_sub (List.mem_of_getElem? (i := 808) (by decide +kernel)) rfl
theorem wd_687 : Cond.code yX4_init cX4_init 5 none ∈ hw_tbl := hw_sub (List.mem_of_getElem? (i := 804) (by decide +kernel)) rfl
theorem wd_686 : Cond.instanceMethod yX4_init ∈ hw_tbl := hw_sub (List.mem_of_getElem? (i := 803) (by decide +kernel)) rfl
theorem wd_15 : Cond.initialized RX4 ∈ hw_tbl := hw_sub (List.mem_of_getElem? (i := 132) (by decide +kernel)) rfl
theorem wd_809 : Cond.code yX4_answerOf cX4_answerOf 2 (some .int) ∈ hw_tbl := hw_sub (List.mem_of_getElem? (i := 926) (by decide +kernel)) rfl
theorem wd_807 : Cond.instanceMethod yX4_answerOf ∈ hw_tbl := hw_sub (List.mem_of_getElem? (i := 924) (by decide +kernel)) rfl
theorem wd_808 : Cond.selects RX4 yX4_answerOf yX4_answerOf ∈ hw_tbl := hw_sub (List.mem_of_getElem? (i := 925) (by decide +kernel)) rfl
theorem wd_817 : Cond.code yX4_walkedOp cX4_walkedOp 4 (some .int) ∈ hw_tbl := hw_sub (List.mem_of_getElem? (i := 934) (by decide +kernel)) rfl
theorem wd_815 : Cond.instanceMethod yX4_walkedOp ∈ hw_tbl := hw_sub (List.mem_of_getElem? (i := 932) (by decide +kernel)) rfl
theorem wd_816 : Cond.selects RX4 yX4_walkedOp yX4_walkedOp ∈ hw_tbl := hw_sub (List.mem_of_getElem? (i := 933) (by decide +kernel)) rfl
theorem wd_761 : Cond.methodLink RX4 109 yX1_outcomeOf ∈ hw_tbl := hw_sub (List.mem_of_getElem? (i := 878) (by decide +kernel)) rfl
theorem wd_760 : Cond.code yX4_behindStep cX4_behindStep 12 (some .int) ∈ hw_tbl := hw_sub (List.mem_of_getElem? (i := 877) (by decide +kernel)) rfl
theorem wd_759 : Cond.instanceMethod yX4_behindStep ∈ hw_tbl := hw_sub (List.mem_of_getElem? (i := 876) (by decide +kernel)) rfl
theorem ws_31 : Cond.selects RX4 yX4_behindStep yX4_behindStep ∈ hw_tbl := hw_sub (List.mem_of_getElem? (i := 31) (by decide +kernel)) rfl
theorem wd_756 : Cond.constant RX4 104 (536887296) ∈ hw_tbl := hw_sub (List.mem_of_getElem? (i := 873) (by decide +kernel)) rfl
theorem wd_757 : Cond.methodLink RX4 105 yX4_behindStep ∈ hw_tbl := hw_sub (List.mem_of_getElem? (i := 874) (by decide +kernel)) rfl
theorem wd_755 : Cond.code yX4_moveOf cX4_moveOf 7 (some .int) ∈ hw_tbl := hw_sub (List.mem_of_getElem? (i := 872) (by decide +kernel)) rfl
theorem wd_754 : Cond.instanceMethod yX4_moveOf ∈ hw_tbl := hw_sub (List.mem_of_getElem? (i := 871) (by decide +kernel)) rfl
theorem ws_30 : Cond.selects RX4 yX4_moveOf yX4_moveOf ∈ hw_tbl := hw_sub (List.mem_of_getElem? (i := 30) (by decide +kernel)) rfl
theorem wd_752 : Cond.methodLink RX4 100 yX4_moveOf ∈ hw_tbl := hw_sub (List.mem_of_getElem? (i := 869) (by decide +kernel)) rfl
theorem wd_751 : Cond.code yX4_learn cX4_learn 6 none ∈ hw_tbl := hw_sub (List.mem_of_getElem? (i := 868) (by decide +kernel)) rfl
theorem wd_750 : Cond.instanceMethod yX4_learn ∈ hw_tbl := hw_sub (List.mem_of_getElem? (i := 867) (by decide +kernel)) rfl
theorem ws_29 : Cond.selects RX4 yX4_learn yX4_learn ∈ hw_tbl := hw_sub (List.mem_of_getElem? (i := 29) (by decide +kernel)) rfl
theorem wd_765 : Cond.methodLink RX4 95 yX1_settledFrom ∈ hw_tbl := hw_sub (List.mem_of_getElem? (i := 882) (by decide +kernel)) rfl
theorem wd_764 : Cond.code yX4_firstCode cX4_firstCode 3 (some .int) ∈ hw_tbl := hw_sub (List.mem_of_getElem? (i := 881) (by decide +kernel)) rfl
theorem wd_763 : Cond.static yX4_firstCode ∈ hw_tbl := hw_sub (List.mem_of_getElem? (i := 880) (by decide +kernel)) rfl
theorem wd_777 : Cond.code yX4_isSame cX4_isSame 4 (some .boolean) ∈ hw_tbl := hw_sub (List.mem_of_getElem? (i := 894) (by decide +kernel)) rfl
theorem wd_776 : Cond.instanceMethod yX4_isSame ∈ hw_tbl := hw_sub (List.mem_of_getElem? (i := 893) (by decide +kernel)) rfl
theorem ws_33 : Cond.selects RX4 yX4_isSame yX4_isSame ∈ hw_tbl := hw_sub (List.mem_of_getElem? (i := 33) (by decide +kernel)) rfl
theorem wd_773 : Cond.constant RX4 127 (16777619) ∈ hw_tbl := hw_sub (List.mem_of_getElem? (i := 890) (by decide +kernel)) rfl
theorem wd_774 : Cond.methodLink RX4 128 yX4_isSame ∈ hw_tbl := hw_sub (List.mem_of_getElem? (i := 891) (by decide +kernel)) rfl
theorem wd_772 : Cond.code yX4_slotOf cX4_slotOf 5 (some .int) ∈ hw_tbl := hw_sub (List.mem_of_getElem? (i := 889) (by decide +kernel)) rfl
theorem wd_771 : Cond.instanceMethod yX4_slotOf ∈ hw_tbl := hw_sub (List.mem_of_getElem? (i := 888) (by decide +kernel)) rfl
theorem ws_32 : Cond.selects RX4 yX4_slotOf yX4_slotOf ∈ hw_tbl := hw_sub (List.mem_of_getElem? (i := 32) (by decide +kernel)) rfl
theorem wd_792 : Cond.code yX4_moved cX4_moved 6 (some .int) ∈ hw_tbl := hw_sub (List.mem_of_getElem? (i := 909) (by decide +kernel)) rfl
theorem wd_791 : Cond.static yX4_moved ∈ hw_tbl := hw_sub (List.mem_of_getElem? (i := 908) (by decide +kernel)) rfl
theorem wd_797 : Cond.code yX4_soundBehind cX4_soundBehind 6 (some .int) ∈ hw_tbl := hw_sub (List.mem_of_getElem? (i := 914) (by decide +kernel)) rfl
theorem wd_796 : Cond.instanceMethod yX4_soundBehind ∈ hw_tbl := hw_sub (List.mem_of_getElem? (i := 913) (by decide +kernel)) rfl
theorem ws_37 : Cond.selects RX4 yX4_soundBehind yX4_soundBehind ∈ hw_tbl := hw_sub (List.mem_of_getElem? (i := 37) (by decide +kernel)) rfl
theorem wd_794 : Cond.methodLink RX4 124 yX4_soundBehind ∈ hw_tbl := hw_sub (List.mem_of_getElem? (i := 911) (by decide +kernel)) rfl
theorem wd_769 : Cond.methodLink RX4 83 yX4_slotOf ∈ hw_tbl := hw_sub (List.mem_of_getElem? (i := 886) (by decide +kernel)) rfl
theorem wd_790 : Cond.methodLink RX4 120 yX4_moved ∈ hw_tbl := hw_sub (List.mem_of_getElem? (i := 907) (by decide +kernel)) rfl
theorem wd_793 : Cond.constant RX4 123 (9586980) ∈ hw_tbl := hw_sub (List.mem_of_getElem? (i := 910) (by decide +kernel)) rfl
theorem wd_789 : Cond.code yX4_arrive cX4_arrive 7 (some .int) ∈ hw_tbl := hw_sub (List.mem_of_getElem? (i := 906) (by decide +kernel)) rfl
theorem wd_788 : Cond.instanceMethod yX4_arrive ∈ hw_tbl := hw_sub (List.mem_of_getElem? (i := 905) (by decide +kernel)) rfl
theorem ws_36 : Cond.selects RX4 yX4_arrive yX4_arrive ∈ hw_tbl := hw_sub (List.mem_of_getElem? (i := 36) (by decide +kernel)) rfl
theorem wd_786 : Cond.methodLink RX4 117 yX4_arrive ∈ hw_tbl := hw_sub (List.mem_of_getElem? (i := 903) (by decide +kernel)) rfl
theorem wd_785 : Cond.code yX4_expand cX4_expand 6 (some .int) ∈ hw_tbl := hw_sub (List.mem_of_getElem? (i := 902) (by decide +kernel)) rfl
theorem wd_784 : Cond.instanceMethod yX4_expand ∈ hw_tbl := hw_sub (List.mem_of_getElem? (i := 901) (by decide +kernel)) rfl
theorem ws_35 : Cond.selects RX4 yX4_expand yX4_expand ∈ hw_tbl := hw_sub (List.mem_of_getElem? (i := 35) (by decide +kernel)) rfl
theorem wd_782 : Cond.methodLink RX4 113 yX4_expand ∈ hw_tbl := hw_sub (List.mem_of_getElem? (i := 899) (by decide +kernel)) rfl
theorem wd_781 : Cond.code yX4_explore cX4_explore 4 (some .int) ∈ hw_tbl := hw_sub (List.mem_of_getElem? (i := 898) (by decide +kernel)) rfl
theorem wd_780 : Cond.instanceMethod yX4_explore ∈ hw_tbl := hw_sub (List.mem_of_getElem? (i := 897) (by decide +kernel)) rfl
theorem ws_34 : Cond.selects RX4 yX4_explore yX4_explore ∈ hw_tbl := hw_sub (List.mem_of_getElem? (i := 34) (by decide +kernel)) rfl
theorem wd_805 : Cond.code yX4_packedStep cX4_packedStep 10 (some .long) ∈ hw_tbl := hw_sub (List.mem_of_getElem? (i := 922) (by decide +kernel)) rfl
theorem wd_804 : Cond.instanceMethod yX4_packedStep ∈ hw_tbl := hw_sub (List.mem_of_getElem? (i := 921) (by decide +kernel)) rfl
theorem ws_39 : Cond.selects RX4 yX4_packedStep yX4_packedStep ∈ hw_tbl := hw_sub (List.mem_of_getElem? (i := 39) (by decide +kernel)) rfl
theorem wd_802 : Cond.methodLink RX4 132 yX4_packedStep ∈ hw_tbl := hw_sub (List.mem_of_getElem? (i := 919) (by decide +kernel)) rfl
theorem wd_801 : Cond.code yX4_walkTo cX4_walkTo 9 (some .long) ∈ hw_tbl := hw_sub (List.mem_of_getElem? (i := 918) (by decide +kernel)) rfl
theorem wd_800 : Cond.instanceMethod yX4_walkTo ∈ hw_tbl := hw_sub (List.mem_of_getElem? (i := 917) (by decide +kernel)) rfl
theorem ws_38 : Cond.selects RX4 yX4_walkTo yX4_walkTo ∈ hw_tbl := hw_sub (List.mem_of_getElem? (i := 38) (by decide +kernel)) rfl
theorem wd_748 : Cond.methodLink RX4 69 yX4_learn ∈ hw_tbl := hw_sub (List.mem_of_getElem? (i := 865) (by decide +kernel)) rfl
theorem wd_762 : Cond.methodLink RX4 73 yX4_firstCode ∈ hw_tbl := hw_sub (List.mem_of_getElem? (i := 879) (by decide +kernel)) rfl
theorem wd_766 : Cond.methodLink RX4 77 yJ7_fill_53178 ∈ hw_tbl := hw_sub (List.mem_of_getElem? (i := 883) (by decide +kernel)) rfl
theorem wd_778 : Cond.methodLink RX4 87 yX4_explore ∈ hw_tbl := hw_sub (List.mem_of_getElem? (i := 895) (by decide +kernel)) rfl
theorem wd_798 : Cond.methodLink RX4 91 yX4_walkTo ∈ hw_tbl := hw_sub (List.mem_of_getElem? (i := 915) (by decide +kernel)) rfl
theorem wd_747 : Cond.code yX4_solve cX4_solve 4 none ∈ hw_tbl := hw_sub (List.mem_of_getElem? (i := 864) (by decide +kernel)) rfl
theorem wd_745 : Cond.instanceMethod yX4_solve ∈ hw_tbl := hw_sub (List.mem_of_getElem? (i := 862) (by decide +kernel)) rfl
theorem wd_746 : Cond.selects RX4 yX4_solve yX4_solve ∈ hw_tbl := hw_sub (List.mem_of_getElem? (i := 863) (by decide +kernel)) rfl
theorem wd_24 : Cond.methodLink RX8 1 Lib.objectInit ∈ hw_tbl := hw_sub (List.mem_of_getElem? (i := 141) (by decide +kernel)) rfl
theorem wd_27 : Cond.classLink RX8 7 RX6 ∈ hw_tbl := hw_sub (List.mem_of_getElem? (i := 144) (by decide +kernel)) rfl
theorem wd_28 : Cond.instantiable RX6 4 ∈ hw_tbl := hw_sub (List.mem_of_getElem? (i := 145) (by decide +kernel)) rfl
theorem wd_188 : Cond.fieldLink RX8 10 RX8 "tape" "LMarchTester$Tape;" ∈ hw_tbl := hw_sub (List.mem_of_getElem? (i := 305) (by decide +kernel)) rfl
theorem wd_49 : Cond.classLink RX8 16 RX1 ∈ hw_tbl := hw_sub (List.mem_of_getElem? (i := 166) (by decide +kernel)) rfl
theorem wd_189 : Cond.fieldLink RX8 18 RX8 "kinds" "[LMarchTester$Kind;" ∈ hw_tbl := hw_sub (List.mem_of_getElem? (i := 306) (by decide +kernel)) rfl
theorem wd_190 : Cond.fieldLink RX8 22 RX8 "kindCount" "I" ∈ hw_tbl := hw_sub (List.mem_of_getElem? (i := 307) (by decide +kernel)) rfl
theorem wd_51 : Cond.classLink RX8 26 RX2 ∈ hw_tbl := hw_sub (List.mem_of_getElem? (i := 168) (by decide +kernel)) rfl
theorem wd_191 : Cond.fieldLink RX8 28 RX8 "marches" "[LMarchTester$March;" ∈ hw_tbl := hw_sub (List.mem_of_getElem? (i := 308) (by decide +kernel)) rfl
theorem wd_192 : Cond.fieldLink RX8 32 RX8 "marchCount" "I" ∈ hw_tbl := hw_sub (List.mem_of_getElem? (i := 309) (by decide +kernel)) rfl
theorem wd_53 : Cond.classLink RX8 35 RX3 ∈ hw_tbl := hw_sub (List.mem_of_getElem? (i := 170) (by decide +kernel)) rfl
theorem wd_193 : Cond.fieldLink RX8 38 RX8 "live" "LMarchTester$Memory;" ∈ hw_tbl := hw_sub (List.mem_of_getElem? (i := 310) (by decide +kernel)) rfl
theorem wd_107 : Cond.classLink RX8 42 RX0 ∈ hw_tbl := hw_sub (List.mem_of_getElem? (i := 224) (by decide +kernel)) rfl
theorem wd_108 : Cond.instantiable RX0 3 ∈ hw_tbl := hw_sub (List.mem_of_getElem? (i := 225) (by decide +kernel)) rfl
theorem wd_194 : Cond.fieldLink RX8 45 RX8 "history" "LMarchTester$History;" ∈ hw_tbl := hw_sub (List.mem_of_getElem? (i := 311) (by decide +kernel)) rfl
theorem wd_126 : Cond.classLink RX8 49 RX7 ∈ hw_tbl := hw_sub (List.mem_of_getElem? (i := 243) (by decide +kernel)) rfl
theorem wd_127 : Cond.instantiable RX7 6 ∈ hw_tbl := hw_sub (List.mem_of_getElem? (i := 244) (by decide +kernel)) rfl
theorem wd_195 : Cond.fieldLink RX8 52 RX8 "trial" "LMarchTester$Trial;" ∈ hw_tbl := hw_sub (List.mem_of_getElem? (i := 312) (by decide +kernel)) rfl
theorem wd_196 : Cond.fieldLink RX8 56 RX8 "knownOnTwo" "[I" ∈ hw_tbl := hw_sub (List.mem_of_getElem? (i := 313) (by decide +kernel)) rfl
theorem wd_197 : Cond.fieldLink RX8 60 RX8 "suspects" "LMarchTester$Suspects;" ∈ hw_tbl := hw_sub (List.mem_of_getElem? (i := 314) (by decide +kernel)) rfl
theorem wd_198 : Cond.fieldLink RX8 64 RX8 "search" "LMarchTester$Search;" ∈ hw_tbl := hw_sub (List.mem_of_getElem? (i := 315) (by decide +kernel)) rfl
theorem wd_199 : Cond.fieldLink RX8 68 RX8 "drawState" "I" ∈ hw_tbl := hw_sub (List.mem_of_getElem? (i := 316) (by decide +kernel)) rfl
theorem wd_155 : Cond.methodLink RX8 71 yX3_begin ∈ hw_tbl := hw_sub (List.mem_of_getElem? (i := 272) (by decide +kernel)) rfl
theorem wd_23 : Cond.code yX8_init cX8_init 1 none ∈ hw_tbl := hw_sub (List.mem_of_getElem? (i := 140) (by decide +kernel)) rfl
theorem wd_22 : Cond.instanceMethod yX8_init ∈ hw_tbl := hw_sub (List.mem_of_getElem? (i := 139) (by decide +kernel)) rfl
theorem wd_1 : Cond.initialized RX8 ∈ hw_tbl := hw_sub (List.mem_of_getElem? (i := 118) (by decide +kernel)) rfl
theorem wd_35 : Cond.fieldLink RX8 75 RX6 "length" "I" ∈ hw_tbl := hw_sub (List.mem_of_getElem? (i := 152) (by decide +kernel)) rfl
theorem wd_229 : Cond.methodLink RX8 78 yX6_append ∈ hw_tbl := hw_sub (List.mem_of_getElem? (i := 346) (by decide +kernel)) rfl
theorem wd_228 : Cond.code yX8_feed cX8_feed 6 (some .int) ∈ hw_tbl := hw_sub (List.mem_of_getElem? (i := 345) (by decide +kernel)) rfl
theorem wd_226 : Cond.instanceMethod yX8_feed ∈ hw_tbl := hw_sub (List.mem_of_getElem? (i := 343) (by decide +kernel)) rfl
theorem wd_227 : Cond.selects RX8 yX8_feed yX8_feed ∈ hw_tbl := hw_sub (List.mem_of_getElem? (i := 344) (by decide +kernel)) rfl
theorem wd_236 : Cond.code yX8_end cX8_end 2 (some .int) ∈ hw_tbl := hw_sub (List.mem_of_getElem? (i := 353) (by decide +kernel)) rfl
theorem wd_234 : Cond.instanceMethod yX8_end ∈ hw_tbl := hw_sub (List.mem_of_getElem? (i := 351) (by decide +kernel)) rfl
theorem wd_235 : Cond.selects RX8 yX8_end yX8_end ∈ hw_tbl := hw_sub (List.mem_of_getElem? (i := 352) (by decide +kernel)) rfl
theorem wd_241 : Cond.instantiable RX1 9 ∈ hw_tbl := hw_sub (List.mem_of_getElem? (i := 358) (by decide +kernel)) rfl
theorem wd_276 : Cond.methodLink RX8 82 yX1_scan ∈ hw_tbl := hw_sub (List.mem_of_getElem? (i := 393) (by decide +kernel)) rfl
theorem wd_38 : Cond.fieldLink RX8 86 RX6 "fault" "I" ∈ hw_tbl := hw_sub (List.mem_of_getElem? (i := 155) (by decide +kernel)) rfl
theorem wd_403 : Cond.methodLink RX8 89 yX1_prepare ∈ hw_tbl := hw_sub (List.mem_of_getElem? (i := 520) (by decide +kernel)) rfl
theorem wd_240 : Cond.code yX8_kind cX8_kind 2 (some .int) ∈ hw_tbl := hw_sub (List.mem_of_getElem? (i := 357) (by decide +kernel)) rfl
theorem wd_238 : Cond.instanceMethod yX8_kind ∈ hw_tbl := hw_sub (List.mem_of_getElem? (i := 355) (by decide +kernel)) rfl
theorem wd_239 : Cond.selects RX8 yX8_kind yX8_kind ∈ hw_tbl := hw_sub (List.mem_of_getElem? (i := 356) (by decide +kernel)) rfl
theorem wd_439 : Cond.instantiable RX2 9 ∈ hw_tbl := hw_sub (List.mem_of_getElem? (i := 556) (by decide +kernel)) rfl
theorem wd_479 : Cond.methodLink RX8 93 yX2_scan ∈ hw_tbl := hw_sub (List.mem_of_getElem? (i := 596) (by decide +kernel)) rfl
theorem wd_438 : Cond.code yX8_march cX8_march 2 (some .int) ∈ hw_tbl := hw_sub (List.mem_of_getElem? (i := 555) (by decide +kernel)) rfl
theorem wd_436 : Cond.instanceMethod yX8_march ∈ hw_tbl := hw_sub (List.mem_of_getElem? (i := 553) (by decide +kernel)) rfl
theorem wd_437 : Cond.selects RX8 yX8_march yX8_march ∈ hw_tbl := hw_sub (List.mem_of_getElem? (i := 554) (by decide +kernel)) rfl
theorem wd_540 : Cond.code yX8_kindAt cX8_kindAt 2 (some (.object RX1)) ∈ hw_tbl := hw_sub (List.mem_of_getElem? (i := 657) (by decide +kernel)) rfl
theorem wd_539 : Cond.instanceMethod yX8_kindAt ∈ hw_tbl := hw_sub (List.mem_of_getElem? (i := 656) (by decide +kernel)) rfl
theorem ws_14 : Cond.selects RX8 yX8_kindAt yX8_kindAt ∈ hw_tbl := hw_sub (List.mem_of_getElem? (i := 14) (by decide +kernel)) rfl
theorem wd_537 : Cond.methodLink RX8 94 yX8_kindAt ∈ hw_tbl := hw_sub (List.mem_of_getElem? (i := 654) (by decide +kernel)) rfl
theorem wd_247 : Cond.fieldLink RX8 98 RX1 "rules" "I" ∈ hw_tbl := hw_sub (List.mem_of_getElem? (i := 364) (by decide +kernel)) rfl
theorem wd_249 : Cond.fieldLink RX8 101 RX1 "pair" "Z" ∈ hw_tbl := hw_sub (List.mem_of_getElem? (i := 366) (by decide +kernel)) rfl
theorem wd_60 : Cond.fieldLink RX8 105 RX3 "size" "I" ∈ hw_tbl := hw_sub (List.mem_of_getElem? (i := 177) (by decide +kernel)) rfl
theorem wd_541 : Cond.methodLink RX8 108 yX1_placements ∈ hw_tbl := hw_sub (List.mem_of_getElem? (i := 658) (by decide +kernel)) rfl
theorem wd_536 : Cond.code yX8_ofKind cX8_ofKind 4 (some .int) ∈ hw_tbl := hw_sub (List.mem_of_getElem? (i := 653) (by decide +kernel)) rfl
theorem wd_534 : Cond.instanceMethod yX8_ofKind ∈ hw_tbl := hw_sub (List.mem_of_getElem? (i := 651) (by decide +kernel)) rfl
theorem wd_535 : Cond.selects RX8 yX8_ofKind yX8_ofKind ∈ hw_tbl := hw_sub (List.mem_of_getElem? (i := 652) (by decide +kernel)) rfl
theorem wd_552 : Cond.code yX8_marchAt cX8_marchAt 2 (some (.object RX2)) ∈ hw_tbl := hw_sub (List.mem_of_getElem? (i := 669) (by decide +kernel)) rfl
theorem wd_551 : Cond.instanceMethod yX8_marchAt ∈ hw_tbl := hw_sub (List.mem_of_getElem? (i := 668) (by decide +kernel)) rfl
theorem ws_15 : Cond.selects RX8 yX8_marchAt yX8_marchAt ∈ hw_tbl := hw_sub (List.mem_of_getElem? (i := 15) (by decide +kernel)) rfl
theorem wd_549 : Cond.methodLink RX8 112 yX8_marchAt ∈ hw_tbl := hw_sub (List.mem_of_getElem? (i := 666) (by decide +kernel)) rfl
theorem wd_446 : Cond.fieldLink RX8 116 RX2 "elements" "I" ∈ hw_tbl := hw_sub (List.mem_of_getElem? (i := 563) (by decide +kernel)) rfl
theorem wd_449 : Cond.fieldLink RX8 119 RX2 "opTotal" "I" ∈ hw_tbl := hw_sub (List.mem_of_getElem? (i := 566) (by decide +kernel)) rfl
theorem wd_451 : Cond.fieldLink RX8 122 RX2 "readTotal" "I" ∈ hw_tbl := hw_sub (List.mem_of_getElem? (i := 568) (by decide +kernel)) rfl
theorem wd_453 : Cond.fieldLink RX8 125 RX2 "anys" "I" ∈ hw_tbl := hw_sub (List.mem_of_getElem? (i := 570) (by decide +kernel)) rfl
theorem wd_455 : Cond.fieldLink RX8 128 RX2 "sound" "I" ∈ hw_tbl := hw_sub (List.mem_of_getElem? (i := 572) (by decide +kernel)) rfl
theorem wd_548 : Cond.code yX8_ofMarch cX8_ofMarch 4 (some .int) ∈ hw_tbl := hw_sub (List.mem_of_getElem? (i := 665) (by decide +kernel)) rfl
theorem wd_546 : Cond.instanceMethod yX8_ofMarch ∈ hw_tbl := hw_sub (List.mem_of_getElem? (i := 663) (by decide +kernel)) rfl
theorem wd_547 : Cond.selects RX8 yX8_ofMarch yX8_ofMarch ∈ hw_tbl := hw_sub (List.mem_of_getElem? (i := 664) (by decide +kernel)) rfl
theorem wd_562 : Cond.methodLink RX8 140 yX2_opsOf ∈ hw_tbl := hw_sub (List.mem_of_getElem? (i := 679) (by decide +kernel)) rfl
theorem wd_566 : Cond.methodLink RX8 143 yX2_opAt ∈ hw_tbl := hw_sub (List.mem_of_getElem? (i := 683) (by decide +kernel)) rfl
theorem wd_557 : Cond.methodLink RX8 131 yX2_wayOf ∈ hw_tbl := hw_sub (List.mem_of_getElem? (i := 674) (by decide +kernel)) rfl
theorem wd_561 : Cond.methodLink RX8 134 Lib.Math.min.name ∈ hw_tbl := hw_sub (List.mem_of_getElem? (i := 678) (by decide +kernel)) rfl
theorem wd_556 : Cond.code yX8_element cX8_element 5 (some .int) ∈ hw_tbl := hw_sub (List.mem_of_getElem? (i := 673) (by decide +kernel)) rfl
theorem wd_554 : Cond.instanceMethod yX8_element ∈ hw_tbl := hw_sub (List.mem_of_getElem? (i := 671) (by decide +kernel)) rfl
theorem wd_555 : Cond.selects RX8 yX8_element yX8_element ∈ hw_tbl := hw_sub (List.mem_of_getElem? (i := 672) (by decide +kernel)) rfl
theorem wd_590 : Cond.methodLink RX8 304 yX2_choices ∈ hw_tbl := hw_sub (List.mem_of_getElem? (i := 707) (by decide +kernel)) rfl
theorem wd_594 : Cond.methodLink RX8 272 yX7_go ∈ hw_tbl := hw_sub (List.mem_of_getElem? (i := 711) (by decide +kernel)) rfl
theorem wd_589 : Cond.code yX8_firstBlindChoice cX8_firstBlindChoice 5 (some .int) ∈ hw_tbl := hw_sub (List.mem_of_getElem? (i := 706) (by decide +kernel)) rfl
theorem wd_588 : Cond.instanceMethod yX8_firstBlindChoice ∈ hw_tbl := hw_sub (List.mem_of_getElem? (i := 705) (by decide +kernel)) rfl
theorem ws_18 : Cond.selects RX8 yX8_firstBlindChoice yX8_firstBlindChoice ∈ hw_tbl := hw_sub (List.mem_of_getElem? (i := 18) (by decide +kernel)) rfl
theorem wd_586 : Cond.methodLink RX8 300 yX8_firstBlindChoice ∈ hw_tbl := hw_sub (List.mem_of_getElem? (i := 703) (by decide +kernel)) rfl
theorem wd_585 : Cond.code yX8_isAlwaysSeen cX8_isAlwaysSeen 4 (some .boolean) ∈ hw_tbl := hw_sub (List.mem_of_getElem? (i := 702) (by decide +kernel)) rfl
theorem wd_584 : Cond.instanceMethod yX8_isAlwaysSeen ∈ hw_tbl := hw_sub (List.mem_of_getElem? (i := 701) (by decide +kernel)) rfl
theorem ws_17 : Cond.selects RX8 yX8_isAlwaysSeen yX8_isAlwaysSeen ∈ hw_tbl := hw_sub (List.mem_of_getElem? (i := 17) (by decide +kernel)) rfl
theorem wd_578 : Cond.methodLink RX8 292 yX7_place ∈ hw_tbl := hw_sub (List.mem_of_getElem? (i := 695) (by decide +kernel)) rfl
theorem wd_582 : Cond.methodLink RX8 296 yX8_isAlwaysSeen ∈ hw_tbl := hw_sub (List.mem_of_getElem? (i := 699) (by decide +kernel)) rfl
theorem wd_577 : Cond.code yX8_bothOrders cX8_bothOrders 7 (some .int) ∈ hw_tbl := hw_sub (List.mem_of_getElem? (i := 694) (by decide +kernel)) rfl
theorem wd_576 : Cond.instanceMethod yX8_bothOrders ∈ hw_tbl := hw_sub (List.mem_of_getElem? (i := 693) (by decide +kernel)) rfl
theorem ws_16 : Cond.selects RX8 yX8_bothOrders yX8_bothOrders ∈ hw_tbl := hw_sub (List.mem_of_getElem? (i := 16) (by decide +kernel)) rfl
theorem wd_630 : Cond.methodLink RX8 251 yX1_aggressorOf ∈ hw_tbl := hw_sub (List.mem_of_getElem? (i := 747) (by decide +kernel)) rfl
theorem wd_635 : Cond.methodLink RX8 254 yX1_victimOf ∈ hw_tbl := hw_sub (List.mem_of_getElem? (i := 752) (by decide +kernel)) rfl
theorem wd_629 : Cond.code yX8_isAsked cX8_isAsked 5 (some .boolean) ∈ hw_tbl := hw_sub (List.mem_of_getElem? (i := 746) (by decide +kernel)) rfl
theorem wd_628 : Cond.instanceMethod yX8_isAsked ∈ hw_tbl := hw_sub (List.mem_of_getElem? (i := 745) (by decide +kernel)) rfl
theorem ws_22 : Cond.selects RX8 yX8_isAsked yX8_isAsked ∈ hw_tbl := hw_sub (List.mem_of_getElem? (i := 22) (by decide +kernel)) rfl
theorem wd_647 : Cond.methodLink RX8 314 yX3_addressOf ∈ hw_tbl := hw_sub (List.mem_of_getElem? (i := 764) (by decide +kernel)) rfl
theorem wd_646 : Cond.code yX8_aim cX8_aim 5 none ∈ hw_tbl := hw_sub (List.mem_of_getElem? (i := 763) (by decide +kernel)) rfl
theorem wd_645 : Cond.instanceMethod yX8_aim ∈ hw_tbl := hw_sub (List.mem_of_getElem? (i := 762) (by decide +kernel)) rfl
theorem ws_24 : Cond.selects RX8 yX8_aim yX8_aim ∈ hw_tbl := hw_sub (List.mem_of_getElem? (i := 24) (by decide +kernel)) rfl
theorem wd_643 : Cond.methodLink RX8 264 yX8_aim ∈ hw_tbl := hw_sub (List.mem_of_getElem? (i := 760) (by decide +kernel)) rfl
theorem wd_133 : Cond.fieldLink RX8 308 RX7 "aggressorAt" "I" ∈ hw_tbl := hw_sub (List.mem_of_getElem? (i := 250) (by decide +kernel)) rfl
theorem wd_135 : Cond.fieldLink RX8 311 RX7 "victimAt" "I" ∈ hw_tbl := hw_sub (List.mem_of_getElem? (i := 252) (by decide +kernel)) rfl
theorem wd_642 : Cond.code yX8_isCaught cX8_isCaught 4 (some .boolean) ∈ hw_tbl := hw_sub (List.mem_of_getElem? (i := 759) (by decide +kernel)) rfl
theorem wd_641 : Cond.instanceMethod yX8_isCaught ∈ hw_tbl := hw_sub (List.mem_of_getElem? (i := 758) (by decide +kernel)) rfl
theorem ws_23 : Cond.selects RX8 yX8_isCaught yX8_isCaught ∈ hw_tbl := hw_sub (List.mem_of_getElem? (i := 23) (by decide +kernel)) rfl
theorem wd_574 : Cond.methodLink RX8 146 yX8_bothOrders ∈ hw_tbl := hw_sub (List.mem_of_getElem? (i := 691) (by decide +kernel)) rfl
theorem wd_626 : Cond.methodLink RX8 149 yX8_isAsked ∈ hw_tbl := hw_sub (List.mem_of_getElem? (i := 743) (by decide +kernel)) rfl
theorem wd_639 : Cond.methodLink RX8 153 yX8_isCaught ∈ hw_tbl := hw_sub (List.mem_of_getElem? (i := 756) (by decide +kernel)) rfl
theorem wd_573 : Cond.code yX8_caught cX8_caught 8 (some .int) ∈ hw_tbl := hw_sub (List.mem_of_getElem? (i := 690) (by decide +kernel)) rfl
theorem wd_571 : Cond.instanceMethod yX8_caught ∈ hw_tbl := hw_sub (List.mem_of_getElem? (i := 688) (by decide +kernel)) rfl
theorem wd_572 : Cond.selects RX8 yX8_caught yX8_caught ∈ hw_tbl := hw_sub (List.mem_of_getElem? (i := 689) (by decide +kernel)) rfl
theorem wd_662 : Cond.code yX8_stateIn cX8_stateIn 5 (some .int) ∈ hw_tbl := hw_sub (List.mem_of_getElem? (i := 779) (by decide +kernel)) rfl
theorem wd_661 : Cond.instanceMethod yX8_stateIn ∈ hw_tbl := hw_sub (List.mem_of_getElem? (i := 778) (by decide +kernel)) rfl
theorem ws_26 : Cond.selects RX8 yX8_stateIn yX8_stateIn ∈ hw_tbl := hw_sub (List.mem_of_getElem? (i := 26) (by decide +kernel)) rfl
theorem wd_659 : Cond.methodLink RX8 268 yX8_stateIn ∈ hw_tbl := hw_sub (List.mem_of_getElem? (i := 776) (by decide +kernel)) rfl
theorem wd_658 : Cond.code yX8_ofEscape cX8_ofEscape 10 (some .int) ∈ hw_tbl := hw_sub (List.mem_of_getElem? (i := 775) (by decide +kernel)) rfl
theorem wd_657 : Cond.instanceMethod yX8_ofEscape ∈ hw_tbl := hw_sub (List.mem_of_getElem? (i := 774) (by decide +kernel)) rfl
theorem ws_25 : Cond.selects RX8 yX8_ofEscape yX8_ofEscape ∈ hw_tbl := hw_sub (List.mem_of_getElem? (i := 25) (by decide +kernel)) rfl
theorem wd_655 : Cond.methodLink RX8 157 yX8_ofEscape ∈ hw_tbl := hw_sub (List.mem_of_getElem? (i := 772) (by decide +kernel)) rfl
theorem wd_654 : Cond.code yX8_escape cX8_escape 9 (some .int) ∈ hw_tbl := hw_sub (List.mem_of_getElem? (i := 771) (by decide +kernel)) rfl
theorem wd_652 : Cond.instanceMethod yX8_escape ∈ hw_tbl := hw_sub (List.mem_of_getElem? (i := 769) (by decide +kernel)) rfl
theorem wd_653 : Cond.selects RX8 yX8_escape yX8_escape ∈ hw_tbl := hw_sub (List.mem_of_getElem? (i := 770) (by decide +kernel)) rfl
theorem wd_666 : Cond.code yX8_onTwo cX8_onTwo 3 (some .int) ∈ hw_tbl := hw_sub (List.mem_of_getElem? (i := 783) (by decide +kernel)) rfl
theorem wd_664 : Cond.instanceMethod yX8_onTwo ∈ hw_tbl := hw_sub (List.mem_of_getElem? (i := 781) (by decide +kernel)) rfl
theorem wd_665 : Cond.selects RX8 yX8_onTwo yX8_onTwo ∈ hw_tbl := hw_sub (List.mem_of_getElem? (i := 782) (by decide +kernel)) rfl
theorem wd_670 : Cond.code yX8_covers cX8_covers 4 (some .int) ∈ hw_tbl := hw_sub (List.mem_of_getElem? (i := 787) (by decide +kernel)) rfl
theorem wd_668 : Cond.instanceMethod yX8_covers ∈ hw_tbl := hw_sub (List.mem_of_getElem? (i := 785) (by decide +kernel)) rfl
theorem wd_669 : Cond.selects RX8 yX8_covers yX8_covers ∈ hw_tbl := hw_sub (List.mem_of_getElem? (i := 786) (by decide +kernel)) rfl
theorem wd_678 : Cond.code yX8_areKinds cX8_areKinds 2 (some .boolean) ∈ hw_tbl := hw_sub (List.mem_of_getElem? (i := 795) (by decide +kernel)) rfl
theorem wd_677 : Cond.instanceMethod yX8_areKinds ∈ hw_tbl := hw_sub (List.mem_of_getElem? (i := 794) (by decide +kernel)) rfl
theorem ws_27 : Cond.selects RX8 yX8_areKinds yX8_areKinds ∈ hw_tbl := hw_sub (List.mem_of_getElem? (i := 27) (by decide +kernel)) rfl
theorem wd_683 : Cond.classLink RX8 170 RX4 ∈ hw_tbl := hw_sub (List.mem_of_getElem? (i := 800) (by decide +kernel)) rfl
theorem wd_684 : Cond.instantiable RX4 16 ∈ hw_tbl := hw_sub (List.mem_of_getElem? (i := 801) (by decide +kernel)) rfl
theorem wd_685 : Cond.methodLink RX8 284 yX4_init ∈ hw_tbl := hw_sub (List.mem_of_getElem? (i := 802) (by decide +kernel)) rfl
theorem wd_682 : Cond.code yX8_madeSearch cX8_madeSearch 1 (some (.object RX4)) ∈ hw_tbl := hw_sub (List.mem_of_getElem? (i := 799) (by decide +kernel)) rfl
theorem wd_681 : Cond.instanceMethod yX8_madeSearch ∈ hw_tbl := hw_sub (List.mem_of_getElem? (i := 798) (by decide +kernel)) rfl
theorem ws_28 : Cond.selects RX8 yX8_madeSearch yX8_madeSearch ∈ hw_tbl := hw_sub (List.mem_of_getElem? (i := 28) (by decide +kernel)) rfl
theorem wd_675 : Cond.methodLink RX8 161 yX8_areKinds ∈ hw_tbl := hw_sub (List.mem_of_getElem? (i := 792) (by decide +kernel)) rfl
theorem wd_679 : Cond.methodLink RX8 165 yX8_madeSearch ∈ hw_tbl := hw_sub (List.mem_of_getElem? (i := 796) (by decide +kernel)) rfl
theorem wd_744 : Cond.methodLink RX8 169 yX4_solve ∈ hw_tbl := hw_sub (List.mem_of_getElem? (i := 861) (by decide +kernel)) rfl
theorem wd_806 : Cond.methodLink RX8 175 yX4_answerOf ∈ hw_tbl := hw_sub (List.mem_of_getElem? (i := 923) (by decide +kernel)) rfl
theorem wd_674 : Cond.code yX8_least cX8_least 3 (some .int) ∈ hw_tbl := hw_sub (List.mem_of_getElem? (i := 791) (by decide +kernel)) rfl
theorem wd_672 : Cond.instanceMethod yX8_least ∈ hw_tbl := hw_sub (List.mem_of_getElem? (i := 789) (by decide +kernel)) rfl
theorem wd_673 : Cond.selects RX8 yX8_least yX8_least ∈ hw_tbl := hw_sub (List.mem_of_getElem? (i := 790) (by decide +kernel)) rfl
theorem wd_814 : Cond.methodLink RX8 178 yX4_walkedOp ∈ hw_tbl := hw_sub (List.mem_of_getElem? (i := 931) (by decide +kernel)) rfl
theorem wd_813 : Cond.code yX8_walk cX8_walk 5 (some .int) ∈ hw_tbl := hw_sub (List.mem_of_getElem? (i := 930) (by decide +kernel)) rfl
theorem wd_811 : Cond.instanceMethod yX8_walk ∈ hw_tbl := hw_sub (List.mem_of_getElem? (i := 928) (by decide +kernel)) rfl
theorem wd_812 : Cond.selects RX8 yX8_walk yX8_walk ∈ hw_tbl := hw_sub (List.mem_of_getElem? (i := 929) (by decide +kernel)) rfl
theorem wd_822 : Cond.methodLink RX8 181 yX0_forget ∈ hw_tbl := hw_sub (List.mem_of_getElem? (i := 939) (by decide +kernel)) rfl
theorem wd_821 : Cond.code yX8_memory cX8_memory 2 (some .boolean) ∈ hw_tbl := hw_sub (List.mem_of_getElem? (i := 938) (by decide +kernel)) rfl
theorem wd_819 : Cond.instanceMethod yX8_memory ∈ hw_tbl := hw_sub (List.mem_of_getElem? (i := 936) (by decide +kernel)) rfl
theorem wd_820 : Cond.selects RX8 yX8_memory yX8_memory ∈ hw_tbl := hw_sub (List.mem_of_getElem? (i := 937) (by decide +kernel)) rfl
theorem wd_830 : Cond.methodLink RX8 184 yX3_hasCell ∈ hw_tbl := hw_sub (List.mem_of_getElem? (i := 947) (by decide +kernel)) rfl
theorem wd_834 : Cond.methodLink RX8 187 yX0_keep ∈ hw_tbl := hw_sub (List.mem_of_getElem? (i := 951) (by decide +kernel)) rfl
theorem wd_847 : Cond.methodLink RX8 191 yX3_insert ∈ hw_tbl := hw_sub (List.mem_of_getElem? (i := 964) (by decide +kernel)) rfl
theorem wd_829 : Cond.code yX8_put cX8_put 6 (some .boolean) ∈ hw_tbl := hw_sub (List.mem_of_getElem? (i := 946) (by decide +kernel)) rfl
theorem wd_827 : Cond.instanceMethod yX8_put ∈ hw_tbl := hw_sub (List.mem_of_getElem? (i := 944) (by decide +kernel)) rfl
theorem wd_828 : Cond.selects RX8 yX8_put yX8_put ∈ hw_tbl := hw_sub (List.mem_of_getElem? (i := 945) (by decide +kernel)) rfl
theorem wd_64 : Cond.fieldLink RX8 195 RX3 "fault" "LMarchTester$Kind;" ∈ hw_tbl := hw_sub (List.mem_of_getElem? (i := 181) (by decide +kernel)) rfl
theorem wd_851 : Cond.code yX8_heal cX8_heal 1 (some .boolean) ∈ hw_tbl := hw_sub (List.mem_of_getElem? (i := 968) (by decide +kernel)) rfl
theorem wd_849 : Cond.instanceMethod yX8_heal ∈ hw_tbl := hw_sub (List.mem_of_getElem? (i := 966) (by decide +kernel)) rfl
theorem wd_850 : Cond.selects RX8 yX8_heal yX8_heal ∈ hw_tbl := hw_sub (List.mem_of_getElem? (i := 967) (by decide +kernel)) rfl
theorem wd_62 : Cond.fieldLink RX8 198 RX3 "cells" "I" ∈ hw_tbl := hw_sub (List.mem_of_getElem? (i := 179) (by decide +kernel)) rfl
theorem wd_856 : Cond.methodLink RX8 201 yX3_fill ∈ hw_tbl := hw_sub (List.mem_of_getElem? (i := 973) (by decide +kernel)) rfl
theorem wd_855 : Cond.code yX8_tell cX8_tell 3 (some .int) ∈ hw_tbl := hw_sub (List.mem_of_getElem? (i := 972) (by decide +kernel)) rfl
theorem wd_853 : Cond.instanceMethod yX8_tell ∈ hw_tbl := hw_sub (List.mem_of_getElem? (i := 970) (by decide +kernel)) rfl
theorem wd_854 : Cond.selects RX8 yX8_tell yX8_tell ∈ hw_tbl := hw_sub (List.mem_of_getElem? (i := 971) (by decide +kernel)) rfl
theorem wd_861 : Cond.methodLink RX8 204 yX3_operate ∈ hw_tbl := hw_sub (List.mem_of_getElem? (i := 978) (by decide +kernel)) rfl
theorem wd_860 : Cond.code yX8_write cX8_write 3 (some .int) ∈ hw_tbl := hw_sub (List.mem_of_getElem? (i := 977) (by decide +kernel)) rfl
theorem wd_858 : Cond.instanceMethod yX8_write ∈ hw_tbl := hw_sub (List.mem_of_getElem? (i := 975) (by decide +kernel)) rfl
theorem wd_859 : Cond.selects RX8 yX8_write yX8_write ∈ hw_tbl := hw_sub (List.mem_of_getElem? (i := 976) (by decide +kernel)) rfl
theorem wd_873 : Cond.code yX8_read cX8_read 2 (some .int) ∈ hw_tbl := hw_sub (List.mem_of_getElem? (i := 990) (by decide +kernel)) rfl
theorem wd_871 : Cond.instanceMethod yX8_read ∈ hw_tbl := hw_sub (List.mem_of_getElem? (i := 988) (by decide +kernel)) rfl
theorem wd_872 : Cond.selects RX8 yX8_read yX8_read ∈ hw_tbl := hw_sub (List.mem_of_getElem? (i := 989) (by decide +kernel)) rfl
theorem wd_878 : Cond.methodLink RX8 207 yX3_goThrough ∈ hw_tbl := hw_sub (List.mem_of_getElem? (i := 995) (by decide +kernel)) rfl
theorem wd_76 : Cond.fieldLink RX8 211 RX3 "failed" "I" ∈ hw_tbl := hw_sub (List.mem_of_getElem? (i := 193) (by decide +kernel)) rfl
theorem wd_877 : Cond.code yX8_run cX8_run 4 (some .int) ∈ hw_tbl := hw_sub (List.mem_of_getElem? (i := 994) (by decide +kernel)) rfl
theorem wd_875 : Cond.instanceMethod yX8_run ∈ hw_tbl := hw_sub (List.mem_of_getElem? (i := 992) (by decide +kernel)) rfl
theorem wd_876 : Cond.selects RX8 yX8_run yX8_run ∈ hw_tbl := hw_sub (List.mem_of_getElem? (i := 993) (by decide +kernel)) rfl
theorem wd_899 : Cond.methodLink RX8 214 yX3_exchange ∈ hw_tbl := hw_sub (List.mem_of_getElem? (i := 1016) (by decide +kernel)) rfl
theorem wd_904 : Cond.methodLink RX8 218 yX3_cellOf ∈ hw_tbl := hw_sub (List.mem_of_getElem? (i := 1021) (by decide +kernel)) rfl
theorem wd_898 : Cond.code yX8_layout cX8_layout 3 (some .int) ∈ hw_tbl := hw_sub (List.mem_of_getElem? (i := 1015) (by decide +kernel)) rfl
theorem wd_896 : Cond.instanceMethod yX8_layout ∈ hw_tbl := hw_sub (List.mem_of_getElem? (i := 1013) (by decide +kernel)) rfl
theorem wd_897 : Cond.selects RX8 yX8_layout yX8_layout ∈ hw_tbl := hw_sub (List.mem_of_getElem? (i := 1014) (by decide +kernel)) rfl
theorem wd_909 : Cond.methodLink RX8 221 yX0_restore ∈ hw_tbl := hw_sub (List.mem_of_getElem? (i := 1026) (by decide +kernel)) rfl
theorem wd_116 : Cond.fieldLink RX8 225 RX0 "size" "I" ∈ hw_tbl := hw_sub (List.mem_of_getElem? (i := 233) (by decide +kernel)) rfl
theorem wd_908 : Cond.code yX8_undo cX8_undo 1 (some .int) ∈ hw_tbl := hw_sub (List.mem_of_getElem? (i := 1025) (by decide +kernel)) rfl
theorem wd_906 : Cond.instanceMethod yX8_undo ∈ hw_tbl := hw_sub (List.mem_of_getElem? (i := 1023) (by decide +kernel)) rfl
theorem wd_907 : Cond.selects RX8 yX8_undo yX8_undo ∈ hw_tbl := hw_sub (List.mem_of_getElem? (i := 1024) (by decide +kernel)) rfl
theorem wd_916 : Cond.code yX8_cell cX8_cell 3 (some .int) ∈ hw_tbl := hw_sub (List.mem_of_getElem? (i := 1033) (by decide +kernel)) rfl
theorem wd_914 : Cond.instanceMethod yX8_cell ∈ hw_tbl := hw_sub (List.mem_of_getElem? (i := 1031) (by decide +kernel)) rfl
theorem wd_915 : Cond.selects RX8 yX8_cell yX8_cell ∈ hw_tbl := hw_sub (List.mem_of_getElem? (i := 1032) (by decide +kernel)) rfl
theorem wd_78 : Cond.fieldLink RX8 226 RX3 "logged" "I" ∈ hw_tbl := hw_sub (List.mem_of_getElem? (i := 195) (by decide +kernel)) rfl
theorem wd_925 : Cond.methodLink RX8 232 yX3_loggedAddress ∈ hw_tbl := hw_sub (List.mem_of_getElem? (i := 1042) (by decide +kernel)) rfl
theorem wd_921 : Cond.methodLink RX8 229 yX3_loggedNumber ∈ hw_tbl := hw_sub (List.mem_of_getElem? (i := 1038) (by decide +kernel)) rfl
theorem wd_920 : Cond.code yX8_log cX8_log 3 (some .int) ∈ hw_tbl := hw_sub (List.mem_of_getElem? (i := 1037) (by decide +kernel)) rfl
theorem wd_918 : Cond.instanceMethod yX8_log ∈ hw_tbl := hw_sub (List.mem_of_getElem? (i := 1035) (by decide +kernel)) rfl
theorem wd_919 : Cond.selects RX8 yX8_log yX8_log ∈ hw_tbl := hw_sub (List.mem_of_getElem? (i := 1036) (by decide +kernel)) rfl
theorem wd_74 : Cond.fieldLink RX8 328 RX3 "runChoice" "I" ∈ hw_tbl := hw_sub (List.mem_of_getElem? (i := 191) (by decide +kernel)) rfl
theorem wd_972 : Cond.methodLink RX8 331 yX3_hasLogOf ∈ hw_tbl := hw_sub (List.mem_of_getElem? (i := 1089) (by decide +kernel)) rfl
theorem wd_971 : Cond.code yX8_couldHaveLogged cX8_couldHaveLogged 5 (some .boolean) ∈ hw_tbl := hw_sub (List.mem_of_getElem? (i := 1088) (by decide +kernel)) rfl
theorem wd_970 : Cond.instanceMethod yX8_couldHaveLogged ∈ hw_tbl := hw_sub (List.mem_of_getElem? (i := 1087) (by decide +kernel)) rfl
theorem ws_44 : Cond.selects RX8 yX8_couldHaveLogged yX8_couldHaveLogged ∈ hw_tbl := hw_sub (List.mem_of_getElem? (i := 44) (by decide +kernel)) rfl
theorem wd_968 : Cond.methodLink RX8 322 yX8_couldHaveLogged ∈ hw_tbl := hw_sub (List.mem_of_getElem? (i := 1085) (by decide +kernel)) rfl
theorem wd_981 : Cond.methodLink RX8 325 yX5_add ∈ hw_tbl := hw_sub (List.mem_of_getElem? (i := 1098) (by decide +kernel)) rfl
theorem wd_967 : Cond.code yX8_gatherOf cX8_gatherOf 6 none ∈ hw_tbl := hw_sub (List.mem_of_getElem? (i := 1084) (by decide +kernel)) rfl
theorem wd_966 : Cond.instanceMethod yX8_gatherOf ∈ hw_tbl := hw_sub (List.mem_of_getElem? (i := 1083) (by decide +kernel)) rfl
theorem ws_43 : Cond.selects RX8 yX8_gatherOf yX8_gatherOf ∈ hw_tbl := hw_sub (List.mem_of_getElem? (i := 43) (by decide +kernel)) rfl
theorem wd_937 : Cond.classLink RX8 243 RX5 ∈ hw_tbl := hw_sub (List.mem_of_getElem? (i := 1054) (by decide +kernel)) rfl
theorem wd_938 : Cond.instantiable RX5 6 ∈ hw_tbl := hw_sub (List.mem_of_getElem? (i := 1055) (by decide +kernel)) rfl
theorem wd_944 : Cond.fieldLink RX8 242 RX5 "size" "I" ∈ hw_tbl := hw_sub (List.mem_of_getElem? (i := 1061) (by decide +kernel)) rfl
theorem wd_72 : Cond.fieldLink RX8 235 RX3 "runMarch" "I" ∈ hw_tbl := hw_sub (List.mem_of_getElem? (i := 189) (by decide +kernel)) rfl
theorem wd_964 : Cond.methodLink RX8 318 yX8_gatherOf ∈ hw_tbl := hw_sub (List.mem_of_getElem? (i := 1081) (by decide +kernel)) rfl
theorem wd_936 : Cond.code yX8_gatheredSuspects cX8_gatheredSuspects 5 (some (.object RX5)) ∈ hw_tbl := hw_sub (List.mem_of_getElem? (i := 1053) (by decide +kernel)) rfl
theorem wd_935 : Cond.instanceMethod yX8_gatheredSuspects ∈ hw_tbl := hw_sub (List.mem_of_getElem? (i := 1052) (by decide +kernel)) rfl
theorem ws_42 : Cond.selects RX8 yX8_gatheredSuspects yX8_gatheredSuspects ∈ hw_tbl := hw_sub (List.mem_of_getElem? (i := 42) (by decide +kernel)) rfl
theorem wd_933 : Cond.methodLink RX8 238 yX8_gatheredSuspects ∈ hw_tbl := hw_sub (List.mem_of_getElem? (i := 1050) (by decide +kernel)) rfl
theorem wd_985 : Cond.methodLink RX8 245 yX5_kindOf ∈ hw_tbl := hw_sub (List.mem_of_getElem? (i := 1102) (by decide +kernel)) rfl
theorem wd_989 : Cond.methodLink RX8 248 yX5_placementOf ∈ hw_tbl := hw_sub (List.mem_of_getElem? (i := 1106) (by decide +kernel)) rfl
theorem wd_932 : Cond.code yX8_fits cX8_fits 5 (some .int) ∈ hw_tbl := hw_sub (List.mem_of_getElem? (i := 1049) (by decide +kernel)) rfl
theorem wd_930 : Cond.instanceMethod yX8_fits ∈ hw_tbl := hw_sub (List.mem_of_getElem? (i := 1047) (by decide +kernel)) rfl
theorem wd_931 : Cond.selects RX8 yX8_fits yX8_fits ∈ hw_tbl := hw_sub (List.mem_of_getElem? (i := 1048) (by decide +kernel)) rfl
theorem wd_946 : Cond.fieldLink RX8 335 RX5 "partCount" "I" ∈ hw_tbl := hw_sub (List.mem_of_getElem? (i := 1063) (by decide +kernel)) rfl
theorem wd_1001 : Cond.methodLink RX8 338 yX5_partWith ∈ hw_tbl := hw_sub (List.mem_of_getElem? (i := 1118) (by decide +kernel)) rfl
theorem wd_1015 : Cond.methodLink RX8 342 Lib.Math.max.name ∈ hw_tbl := hw_sub (List.mem_of_getElem? (i := 1132) (by decide +kernel)) rfl
theorem wd_1000 : Cond.code yX8_greatestPart cX8_greatestPart 7 (some .int) ∈ hw_tbl := hw_sub (List.mem_of_getElem? (i := 1117) (by decide +kernel)) rfl
theorem wd_999 : Cond.instanceMethod yX8_greatestPart ∈ hw_tbl := hw_sub (List.mem_of_getElem? (i := 1116) (by decide +kernel)) rfl
theorem ws_45 : Cond.selects RX8 yX8_greatestPart yX8_greatestPart ∈ hw_tbl := hw_sub (List.mem_of_getElem? (i := 45) (by decide +kernel)) rfl
theorem wd_997 : Cond.methodLink RX8 257 yX8_greatestPart ∈ hw_tbl := hw_sub (List.mem_of_getElem? (i := 1114) (by decide +kernel)) rfl
theorem wd_996 : Cond.code yX8_parts cX8_parts 2 (some .int) ∈ hw_tbl := hw_sub (List.mem_of_getElem? (i := 1113) (by decide +kernel)) rfl
theorem wd_994 : Cond.instanceMethod yX8_parts ∈ hw_tbl := hw_sub (List.mem_of_getElem? (i := 1111) (by decide +kernel)) rfl
theorem wd_995 : Cond.selects RX8 yX8_parts yX8_parts ∈ hw_tbl := hw_sub (List.mem_of_getElem? (i := 1112) (by decide +kernel)) rfl
theorem wd_1019 : Cond.code yX8_ask cX8_ask 6 (some .int) ∈ hw_tbl := hw_sub (List.mem_of_getElem? (i := 1136) (by decide +kernel)) rfl
theorem wd_1017 : Cond.instanceMethod yX8_ask ∈ hw_tbl := hw_sub (List.mem_of_getElem? (i := 1134) (by decide +kernel)) rfl
theorem wd_1018 : Cond.selects RX8 yX8_ask yX8_ask ∈ hw_tbl := hw_sub (List.mem_of_getElem? (i := 1135) (by decide +kernel)) rfl
theorem wd_1023 : Cond.code yX8_draws cX8_draws 3 (some .int) ∈ hw_tbl := hw_sub (List.mem_of_getElem? (i := 1140) (by decide +kernel)) rfl
theorem wd_1021 : Cond.instanceMethod yX8_draws ∈ hw_tbl := hw_sub (List.mem_of_getElem? (i := 1138) (by decide +kernel)) rfl
theorem wd_1022 : Cond.selects RX8 yX8_draws yX8_draws ∈ hw_tbl := hw_sub (List.mem_of_getElem? (i := 1139) (by decide +kernel)) rfl
theorem wd_1032 : Cond.constantLong RX8 285 (1103515245) ∈ hw_tbl := hw_sub (List.mem_of_getElem? (i := 1149) (by decide +kernel)) rfl
theorem wd_1033 : Cond.constantLong RX8 287 (12345) ∈ hw_tbl := hw_sub (List.mem_of_getElem? (i := 1150) (by decide +kernel)) rfl
theorem wd_1034 : Cond.constantLong RX8 289 (2147483647) ∈ hw_tbl := hw_sub (List.mem_of_getElem? (i := 1151) (by decide +kernel)) rfl
theorem wd_1035 : Cond.constant RX8 291 (65536) ∈ hw_tbl := hw_sub (List.mem_of_getElem? (i := 1152) (by decide +kernel)) rfl
theorem wd_1031 : Cond.code yX8_draw cX8_draw 4 (some .int) ∈ hw_tbl := hw_sub (List.mem_of_getElem? (i := 1148) (by decide +kernel)) rfl
theorem wd_1030 : Cond.instanceMethod yX8_draw ∈ hw_tbl := hw_sub (List.mem_of_getElem? (i := 1147) (by decide +kernel)) rfl
theorem ws_48 : Cond.selects RX8 yX8_draw yX8_draw ∈ hw_tbl := hw_sub (List.mem_of_getElem? (i := 48) (by decide +kernel)) rfl
theorem wd_1028 : Cond.methodLink RX8 261 yX8_draw ∈ hw_tbl := hw_sub (List.mem_of_getElem? (i := 1145) (by decide +kernel)) rfl
theorem wd_1027 : Cond.code yX8_drawn cX8_drawn 11 (some .int) ∈ hw_tbl := hw_sub (List.mem_of_getElem? (i := 1144) (by decide +kernel)) rfl
theorem wd_1025 : Cond.instanceMethod yX8_drawn ∈ hw_tbl := hw_sub (List.mem_of_getElem? (i := 1142) (by decide +kernel)) rfl
theorem wd_1026 : Cond.selects RX8 yX8_drawn yX8_drawn ∈ hw_tbl := hw_sub (List.mem_of_getElem? (i := 1143) (by decide +kernel)) rfl
theorem wd_66 : Cond.fieldLink RX8 275 RX3 "faultKind" "I" ∈ hw_tbl := hw_sub (List.mem_of_getElem? (i := 183) (by decide +kernel)) rfl
theorem wd_68 : Cond.fieldLink RX8 278 RX3 "a" "I" ∈ hw_tbl := hw_sub (List.mem_of_getElem? (i := 185) (by decide +kernel)) rfl
theorem wd_70 : Cond.fieldLink RX8 281 RX3 "v" "I" ∈ hw_tbl := hw_sub (List.mem_of_getElem? (i := 187) (by decide +kernel)) rfl
theorem wd_1039 : Cond.code yX8_count cX8_count 2 (some .int) ∈ hw_tbl := hw_sub (List.mem_of_getElem? (i := 1156) (by decide +kernel)) rfl
theorem wd_1037 : Cond.instanceMethod yX8_count ∈ hw_tbl := hw_sub (List.mem_of_getElem? (i := 1154) (by decide +kernel)) rfl
theorem wd_1038 : Cond.selects RX8 yX8_count yX8_count ∈ hw_tbl := hw_sub (List.mem_of_getElem? (i := 1155) (by decide +kernel)) rfl
theorem wd_1065 : Cond.fieldLink RX9 180 RX9 "cells" "I" ∈ hw_tbl := hw_sub (List.mem_of_getElem? (i := 1182) (by decide +kernel)) rfl
theorem wd_1066 : Cond.fieldLink RX9 32 RX9 "now" "[I" ∈ hw_tbl := hw_sub (List.mem_of_getElem? (i := 1183) (by decide +kernel)) rfl
theorem wd_1069 : Cond.fieldLink RX9 183 RX9 "undone" "I" ∈ hw_tbl := hw_sub (List.mem_of_getElem? (i := 1186) (by decide +kernel)) rfl
theorem wd_1049 : Cond.code yX9_begins cX9_begins 3 none ∈ hw_tbl := hw_sub (List.mem_of_getElem? (i := 1166) (by decide +kernel)) rfl
theorem wd_1048 : Cond.instanceMethod yX9_begins ∈ hw_tbl := hw_sub (List.mem_of_getElem? (i := 1165) (by decide +kernel)) rfl
theorem wd_7 : Cond.initialized RX9 ∈ hw_tbl := hw_sub (List.mem_of_getElem? (i := 124) (by decide +kernel)) rfl
theorem ws_49 : Cond.selects RX9 yX9_begins yX9_begins ∈ hw_tbl := hw_sub (List.mem_of_getElem? (i := 49) (by decide +kernel)) rfl
theorem wd_1045 : Cond.methodLink RX9 1 Lib.objectInit ∈ hw_tbl := hw_sub (List.mem_of_getElem? (i := 1162) (by decide +kernel)) rfl
theorem wd_1050 : Cond.fieldLink RX9 7 RX9 "tape" "[B" ∈ hw_tbl := hw_sub (List.mem_of_getElem? (i := 1167) (by decide +kernel)) rfl
theorem wd_1055 : Cond.fieldLink RX9 13 RX9 "rule" "[I" ∈ hw_tbl := hw_sub (List.mem_of_getElem? (i := 1172) (by decide +kernel)) rfl
theorem wd_1056 : Cond.fieldLink RX9 17 RX9 "ruleMany" "[I" ∈ hw_tbl := hw_sub (List.mem_of_getElem? (i := 1173) (by decide +kernel)) rfl
theorem wd_1058 : Cond.fieldLink RX9 20 RX9 "element" "[I" ∈ hw_tbl := hw_sub (List.mem_of_getElem? (i := 1175) (by decide +kernel)) rfl
theorem wd_1059 : Cond.fieldLink RX9 23 RX9 "elementMany" "[I" ∈ hw_tbl := hw_sub (List.mem_of_getElem? (i := 1176) (by decide +kernel)) rfl
theorem wd_1060 : Cond.fieldLink RX9 26 RX9 "lastWritten" "[I" ∈ hw_tbl := hw_sub (List.mem_of_getElem? (i := 1177) (by decide +kernel)) rfl
theorem wd_1062 : Cond.fieldLink RX9 29 RX9 "words" "[B" ∈ hw_tbl := hw_sub (List.mem_of_getElem? (i := 1179) (by decide +kernel)) rfl
theorem wd_1067 : Cond.fieldLink RX9 35 RX9 "aside" "[I" ∈ hw_tbl := hw_sub (List.mem_of_getElem? (i := 1184) (by decide +kernel)) rfl
theorem wd_1068 : Cond.fieldLink RX9 38 RX9 "was" "[I" ∈ hw_tbl := hw_sub (List.mem_of_getElem? (i := 1185) (by decide +kernel)) rfl
theorem wd_1071 : Cond.fieldLink RX9 41 RX9 "failed" "[I" ∈ hw_tbl := hw_sub (List.mem_of_getElem? (i := 1188) (by decide +kernel)) rfl
theorem wd_1075 : Cond.fieldLink RX9 44 RX9 "state" "[J" ∈ hw_tbl := hw_sub (List.mem_of_getElem? (i := 1192) (by decide +kernel)) rfl
theorem wd_1076 : Cond.fieldLink RX9 48 RX9 "stateOps" "[I" ∈ hw_tbl := hw_sub (List.mem_of_getElem? (i := 1193) (by decide +kernel)) rfl
theorem wd_1077 : Cond.fieldLink RX9 51 RX9 "stateFrom" "[I" ∈ hw_tbl := hw_sub (List.mem_of_getElem? (i := 1194) (by decide +kernel)) rfl
theorem wd_1078 : Cond.fieldLink RX9 54 RX9 "stateBy" "[I" ∈ hw_tbl := hw_sub (List.mem_of_getElem? (i := 1195) (by decide +kernel)) rfl
theorem wd_1081 : Cond.fieldLink RX9 57 RX9 "machineKind" "[I" ∈ hw_tbl := hw_sub (List.mem_of_getElem? (i := 1198) (by decide +kernel)) rfl
theorem wd_1082 : Cond.fieldLink RX9 60 RX9 "machineSide" "[I" ∈ hw_tbl := hw_sub (List.mem_of_getElem? (i := 1199) (by decide +kernel)) rfl
theorem wd_1083 : Cond.fieldLink RX9 63 RX9 "built" "[J" ∈ hw_tbl := hw_sub (List.mem_of_getElem? (i := 1200) (by decide +kernel)) rfl
theorem wd_1084 : Cond.fieldLink RX9 66 RX9 "walked" "[I" ∈ hw_tbl := hw_sub (List.mem_of_getElem? (i := 1201) (by decide +kernel)) rfl
theorem wd_1085 : Cond.fieldLink RX9 69 RX9 "fit" "[I" ∈ hw_tbl := hw_sub (List.mem_of_getElem? (i := 1202) (by decide +kernel)) rfl
theorem wd_1087 : Cond.fieldLink RX9 72 RX9 "laidFailed" "[I" ∈ hw_tbl := hw_sub (List.mem_of_getElem? (i := 1204) (by decide +kernel)) rfl
theorem wd_1088 : Cond.fieldLink RX9 75 RX9 "laidLog" "[I" ∈ hw_tbl := hw_sub (List.mem_of_getElem? (i := 1205) (by decide +kernel)) rfl
theorem wd_1046 : Cond.methodLink RX9 78 yX9_begins ∈ hw_tbl := hw_sub (List.mem_of_getElem? (i := 1163) (by decide +kernel)) rfl
theorem wd_1044 : Cond.code yX9_init cX9_init 1 none ∈ hw_tbl := hw_sub (List.mem_of_getElem? (i := 1161) (by decide +kernel)) rfl
theorem wd_1043 : Cond.instanceMethod yX9_init ∈ hw_tbl := hw_sub (List.mem_of_getElem? (i := 1160) (by decide +kernel)) rfl
theorem wd_1184 : Cond.code yX9_isIn cX9_isIn 6 (some .boolean) ∈ hw_tbl := hw_sub (List.mem_of_getElem? (i := 1301) (by decide +kernel)) rfl
theorem wd_1183 : Cond.static yX9_isIn ∈ hw_tbl := hw_sub (List.mem_of_getElem? (i := 1300) (by decide +kernel)) rfl
theorem wd_1431 : Cond.code yX9_has cX9_has 2 (some .boolean) ∈ hw_tbl := hw_sub (List.mem_of_getElem? (i := 1548) (by decide +kernel)) rfl
theorem wd_1430 : Cond.static yX9_has ∈ hw_tbl := hw_sub (List.mem_of_getElem? (i := 1547) (by decide +kernel)) rfl
theorem wd_1347 : Cond.code yX9_with cX9_with 3 (some .int) ∈ hw_tbl := hw_sub (List.mem_of_getElem? (i := 1464) (by decide +kernel)) rfl
theorem wd_1346 : Cond.static yX9_with ∈ hw_tbl := hw_sub (List.mem_of_getElem? (i := 1463) (by decide +kernel)) rfl
theorem wd_1051 : Cond.fieldLink RX9 82 RX9 "taped" "I" ∈ hw_tbl := hw_sub (List.mem_of_getElem? (i := 1168) (by decide +kernel)) rfl
theorem wd_1177 : Cond.code yX9_feed cX9_feed 8 (some .int) ∈ hw_tbl := hw_sub (List.mem_of_getElem? (i := 1294) (by decide +kernel)) rfl
theorem wd_1175 : Cond.instanceMethod yX9_feed ∈ hw_tbl := hw_sub (List.mem_of_getElem? (i := 1292) (by decide +kernel)) rfl
theorem wd_1176 : Cond.selects RX9 yX9_feed yX9_feed ∈ hw_tbl := hw_sub (List.mem_of_getElem? (i := 1293) (by decide +kernel)) rfl
