/-! ===== methods: 18.reader ===== -/
theorem dX7_hasRoomForFive_0 : decode mX7_hasRoomForFive.2.1 0 = .ok (.aload_n 0, 1) := by decide +kernel
theorem dX7_hasRoomForFive_1 : decode mX7_hasRoomForFive.2.1 1 = .ok (.getfield 24, 3) := by decide +kernel
theorem dX7_hasRoomForFive_4 : decode mX7_hasRoomForFive.2.1 4 = .ok (.bipush 20, 2) := by decide +kernel
theorem dX7_hasRoomForFive_6 : decode mX7_hasRoomForFive.2.1 6 = .ok (.iadd, 1) := by decide +kernel
theorem dX7_hasRoomForFive_7 : decode mX7_hasRoomForFive.2.1 7 = .ok (.sipush 500, 3) := by decide +kernel
theorem dX7_hasRoomForFive_10 : decode mX7_hasRoomForFive.2.1 10 = .ok (.if_icmp .gt 7, 3) := by decide +kernel
theorem dX7_hasRoomForFive_13 : decode mX7_hasRoomForFive.2.1 13 = .ok (.iconst 1, 1) := by decide +kernel
theorem dX7_hasRoomForFive_14 : decode mX7_hasRoomForFive.2.1 14 = .ok (.goto 4, 3) := by decide +kernel
theorem dX7_hasRoomForFive_17 : decode mX7_hasRoomForFive.2.1 17 = .ok (.iconst 0, 1) := by decide +kernel
theorem dX7_hasRoomForFive_18 : decode mX7_hasRoomForFive.2.1 18 = .ok (.ireturn, 1) := by decide +kernel
theorem dX7_append_0 : decode mX7_append.2.1 0 = .ok (.bipush 24, 2) := by decide +kernel
theorem dX7_append_2 : decode mX7_append.2.1 2 = .ok (.istore_n 2, 1) := by decide +kernel
theorem dX7_append_3 : decode mX7_append.2.1 3 = .ok (.iload_n 2, 1) := by decide +kernel
theorem dX7_append_4 : decode mX7_append.2.1 4 = .ok (.ifCond .lt 45, 3) := by decide +kernel
theorem dX7_append_7 : decode mX7_append.2.1 7 = .ok (.aload_n 0, 1) := by decide +kernel
theorem dX7_append_8 : decode mX7_append.2.1 8 = .ok (.getfield 24, 3) := by decide +kernel
theorem dX7_append_11 : decode mX7_append.2.1 11 = .ok (.sipush 500, 3) := by decide +kernel
theorem dX7_append_14 : decode mX7_append.2.1 14 = .ok (.if_icmp .ge 35, 3) := by decide +kernel
theorem dX7_append_17 : decode mX7_append.2.1 17 = .ok (.aload_n 0, 1) := by decide +kernel
theorem dX7_append_18 : decode mX7_append.2.1 18 = .ok (.getfield 11, 3) := by decide +kernel
theorem dX7_append_21 : decode mX7_append.2.1 21 = .ok (.aload_n 0, 1) := by decide +kernel
theorem dX7_append_22 : decode mX7_append.2.1 22 = .ok (.getfield 24, 3) := by decide +kernel
theorem dX7_append_25 : decode mX7_append.2.1 25 = .ok (.iload_n 1, 1) := by decide +kernel
theorem dX7_append_26 : decode mX7_append.2.1 26 = .ok (.iload_n 2, 1) := by decide +kernel
theorem dX7_append_27 : decode mX7_append.2.1 27 = .ok (.ishr, 1) := by decide +kernel
theorem dX7_append_28 : decode mX7_append.2.1 28 = .ok (.sipush 255, 3) := by decide +kernel
theorem dX7_append_31 : decode mX7_append.2.1 31 = .ok (.iand, 1) := by decide +kernel
theorem dX7_append_32 : decode mX7_append.2.1 32 = .ok (.iastore, 1) := by decide +kernel
theorem dX7_append_33 : decode mX7_append.2.1 33 = .ok (.aload_n 0, 1) := by decide +kernel
theorem dX7_append_34 : decode mX7_append.2.1 34 = .ok (.dup, 1) := by decide +kernel
theorem dX7_append_35 : decode mX7_append.2.1 35 = .ok (.getfield 24, 3) := by decide +kernel
theorem dX7_append_38 : decode mX7_append.2.1 38 = .ok (.iconst 1, 1) := by decide +kernel
theorem dX7_append_39 : decode mX7_append.2.1 39 = .ok (.iadd, 1) := by decide +kernel
theorem dX7_append_40 : decode mX7_append.2.1 40 = .ok (.putfield 24, 3) := by decide +kernel
theorem dX7_append_43 : decode mX7_append.2.1 43 = .ok (.iinc 2 (-8), 3) := by decide +kernel
theorem dX7_append_46 : decode mX7_append.2.1 46 = .ok (.goto (-43), 3) := by decide +kernel
theorem dX7_append_49 : decode mX7_append.2.1 49 = .ok (.return_, 1) := by decide +kernel
theorem dX7_addToken_0 : decode mX7_addToken.2.1 0 = .ok (.aload_n 0, 1) := by decide +kernel
theorem dX7_addToken_1 : decode mX7_addToken.2.1 1 = .ok (.getfield 58, 3) := by decide +kernel
theorem dX7_addToken_4 : decode mX7_addToken.2.1 4 = .ok (.aload_n 0, 1) := by decide +kernel
theorem dX7_addToken_5 : decode mX7_addToken.2.1 5 = .ok (.getfield 15, 3) := by decide +kernel
theorem dX7_addToken_8 : decode mX7_addToken.2.1 8 = .ok (.arraylength, 1) := by decide +kernel
theorem dX7_addToken_9 : decode mX7_addToken.2.1 9 = .ok (.if_icmp .ge 33, 3) := by decide +kernel
theorem dX7_addToken_12 : decode mX7_addToken.2.1 12 = .ok (.aload_n 0, 1) := by decide +kernel
theorem dX7_addToken_13 : decode mX7_addToken.2.1 13 = .ok (.getfield 15, 3) := by decide +kernel
theorem dX7_addToken_16 : decode mX7_addToken.2.1 16 = .ok (.aload_n 0, 1) := by decide +kernel
theorem dX7_addToken_17 : decode mX7_addToken.2.1 17 = .ok (.getfield 58, 3) := by decide +kernel
theorem dX7_addToken_20 : decode mX7_addToken.2.1 20 = .ok (.iload_n 1, 1) := by decide +kernel
theorem dX7_addToken_21 : decode mX7_addToken.2.1 21 = .ok (.iastore, 1) := by decide +kernel
theorem dX7_addToken_22 : decode mX7_addToken.2.1 22 = .ok (.aload_n 0, 1) := by decide +kernel
theorem dX7_addToken_23 : decode mX7_addToken.2.1 23 = .ok (.getfield 18, 3) := by decide +kernel
theorem dX7_addToken_26 : decode mX7_addToken.2.1 26 = .ok (.aload_n 0, 1) := by decide +kernel
theorem dX7_addToken_27 : decode mX7_addToken.2.1 27 = .ok (.getfield 58, 3) := by decide +kernel
theorem dX7_addToken_30 : decode mX7_addToken.2.1 30 = .ok (.iload_n 2, 1) := by decide +kernel
theorem dX7_addToken_31 : decode mX7_addToken.2.1 31 = .ok (.iastore, 1) := by decide +kernel
theorem dX7_addToken_32 : decode mX7_addToken.2.1 32 = .ok (.aload_n 0, 1) := by decide +kernel
theorem dX7_addToken_33 : decode mX7_addToken.2.1 33 = .ok (.dup, 1) := by decide +kernel
theorem dX7_addToken_34 : decode mX7_addToken.2.1 34 = .ok (.getfield 58, 3) := by decide +kernel
theorem dX7_addToken_37 : decode mX7_addToken.2.1 37 = .ok (.iconst 1, 1) := by decide +kernel
theorem dX7_addToken_38 : decode mX7_addToken.2.1 38 = .ok (.iadd, 1) := by decide +kernel
theorem dX7_addToken_39 : decode mX7_addToken.2.1 39 = .ok (.putfield 58, 3) := by decide +kernel
theorem dX7_addToken_42 : decode mX7_addToken.2.1 42 = .ok (.return_, 1) := by decide +kernel
theorem dX7_numberBetween_0 : decode mX7_numberBetween.2.1 0 = .ok (.iload_n 2, 1) := by decide +kernel
theorem dX7_numberBetween_1 : decode mX7_numberBetween.2.1 1 = .ok (.iload_n 1, 1) := by decide +kernel
theorem dX7_numberBetween_2 : decode mX7_numberBetween.2.1 2 = .ok (.isub, 1) := by decide +kernel
theorem dX7_numberBetween_3 : decode mX7_numberBetween.2.1 3 = .ok (.iconst 5, 1) := by decide +kernel
theorem dX7_numberBetween_4 : decode mX7_numberBetween.2.1 4 = .ok (.if_icmp .le 5, 3) := by decide +kernel
theorem dX7_numberBetween_7 : decode mX7_numberBetween.2.1 7 = .ok (.iconst (-1), 1) := by decide +kernel
theorem dX7_numberBetween_8 : decode mX7_numberBetween.2.1 8 = .ok (.ireturn, 1) := by decide +kernel
theorem dX7_numberBetween_9 : decode mX7_numberBetween.2.1 9 = .ok (.iconst 0, 1) := by decide +kernel
theorem dX7_numberBetween_10 : decode mX7_numberBetween.2.1 10 = .ok (.istore_n 3, 1) := by decide +kernel
theorem dX7_numberBetween_11 : decode mX7_numberBetween.2.1 11 = .ok (.iload_n 1, 1) := by decide +kernel
theorem dX7_numberBetween_12 : decode mX7_numberBetween.2.1 12 = .ok (.istore 4, 2) := by decide +kernel
theorem dX7_numberBetween_14 : decode mX7_numberBetween.2.1 14 = .ok (.iload 4, 2) := by decide +kernel
theorem dX7_numberBetween_16 : decode mX7_numberBetween.2.1 16 = .ok (.iload_n 2, 1) := by decide +kernel
theorem dX7_numberBetween_17 : decode mX7_numberBetween.2.1 17 = .ok (.if_icmp .ge 25, 3) := by decide +kernel
theorem dX7_numberBetween_20 : decode mX7_numberBetween.2.1 20 = .ok (.iload_n 3, 1) := by decide +kernel
theorem dX7_numberBetween_21 : decode mX7_numberBetween.2.1 21 = .ok (.bipush 10, 2) := by decide +kernel
theorem dX7_numberBetween_23 : decode mX7_numberBetween.2.1 23 = .ok (.imul, 1) := by decide +kernel
theorem dX7_numberBetween_24 : decode mX7_numberBetween.2.1 24 = .ok (.aload_n 0, 1) := by decide +kernel
theorem dX7_numberBetween_25 : decode mX7_numberBetween.2.1 25 = .ok (.getfield 11, 3) := by decide +kernel
theorem dX7_numberBetween_28 : decode mX7_numberBetween.2.1 28 = .ok (.iload 4, 2) := by decide +kernel
theorem dX7_numberBetween_30 : decode mX7_numberBetween.2.1 30 = .ok (.iaload, 1) := by decide +kernel
theorem dX7_numberBetween_31 : decode mX7_numberBetween.2.1 31 = .ok (.iadd, 1) := by decide +kernel
theorem dX7_numberBetween_32 : decode mX7_numberBetween.2.1 32 = .ok (.bipush 48, 2) := by decide +kernel
theorem dX7_numberBetween_34 : decode mX7_numberBetween.2.1 34 = .ok (.isub, 1) := by decide +kernel
theorem dX7_numberBetween_35 : decode mX7_numberBetween.2.1 35 = .ok (.istore_n 3, 1) := by decide +kernel
theorem dX7_numberBetween_36 : decode mX7_numberBetween.2.1 36 = .ok (.iinc 4 1, 3) := by decide +kernel
theorem dX7_numberBetween_39 : decode mX7_numberBetween.2.1 39 = .ok (.goto (-25), 3) := by decide +kernel
theorem dX7_numberBetween_42 : decode mX7_numberBetween.2.1 42 = .ok (.sipush 1000, 3) := by decide +kernel
theorem dX7_numberBetween_45 : decode mX7_numberBetween.2.1 45 = .ok (.iload_n 3, 1) := by decide +kernel
theorem dX7_numberBetween_46 : decode mX7_numberBetween.2.1 46 = .ok (.iadd, 1) := by decide +kernel
theorem dX7_numberBetween_47 : decode mX7_numberBetween.2.1 47 = .ok (.ireturn, 1) := by decide +kernel
theorem dX7_groupOf_0 : decode mX7_groupOf.2.1 0 = .ok (.iload_n 0, 1) := by decide +kernel
theorem dX7_groupOf_1 : decode mX7_groupOf.2.1 1 = .ok (.bipush 32, 2) := by decide +kernel
theorem dX7_groupOf_3 : decode mX7_groupOf.2.1 3 = .ok (.if_icmp .eq 9, 3) := by decide +kernel
theorem dX7_groupOf_6 : decode mX7_groupOf.2.1 6 = .ok (.iload_n 0, 1) := by decide +kernel
theorem dX7_groupOf_7 : decode mX7_groupOf.2.1 7 = .ok (.bipush 10, 2) := by decide +kernel
theorem dX7_groupOf_9 : decode mX7_groupOf.2.1 9 = .ok (.if_icmp .ne 5, 3) := by decide +kernel
theorem dX7_groupOf_12 : decode mX7_groupOf.2.1 12 = .ok (.iconst 0, 1) := by decide +kernel
theorem dX7_groupOf_13 : decode mX7_groupOf.2.1 13 = .ok (.ireturn, 1) := by decide +kernel
theorem dX7_groupOf_14 : decode mX7_groupOf.2.1 14 = .ok (.iload_n 0, 1) := by decide +kernel
theorem dX7_groupOf_15 : decode mX7_groupOf.2.1 15 = .ok (.bipush 97, 2) := by decide +kernel
theorem dX7_groupOf_17 : decode mX7_groupOf.2.1 17 = .ok (.if_icmp .lt 11, 3) := by decide +kernel
theorem dX7_groupOf_20 : decode mX7_groupOf.2.1 20 = .ok (.iload_n 0, 1) := by decide +kernel
theorem dX7_groupOf_21 : decode mX7_groupOf.2.1 21 = .ok (.bipush 122, 2) := by decide +kernel
theorem dX7_groupOf_23 : decode mX7_groupOf.2.1 23 = .ok (.if_icmp .gt 5, 3) := by decide +kernel
theorem dX7_groupOf_26 : decode mX7_groupOf.2.1 26 = .ok (.iconst 1, 1) := by decide +kernel
theorem dX7_groupOf_27 : decode mX7_groupOf.2.1 27 = .ok (.ireturn, 1) := by decide +kernel
theorem dX7_groupOf_28 : decode mX7_groupOf.2.1 28 = .ok (.iload_n 0, 1) := by decide +kernel
theorem dX7_groupOf_29 : decode mX7_groupOf.2.1 29 = .ok (.bipush 48, 2) := by decide +kernel
theorem dX7_groupOf_31 : decode mX7_groupOf.2.1 31 = .ok (.if_icmp .lt 13, 3) := by decide +kernel
theorem dX7_groupOf_34 : decode mX7_groupOf.2.1 34 = .ok (.iload_n 0, 1) := by decide +kernel
theorem dX7_groupOf_35 : decode mX7_groupOf.2.1 35 = .ok (.bipush 57, 2) := by decide +kernel
theorem dX7_groupOf_37 : decode mX7_groupOf.2.1 37 = .ok (.if_icmp .gt 7, 3) := by decide +kernel
theorem dX7_groupOf_40 : decode mX7_groupOf.2.1 40 = .ok (.iconst 2, 1) := by decide +kernel
theorem dX7_groupOf_41 : decode mX7_groupOf.2.1 41 = .ok (.goto 4, 3) := by decide +kernel
theorem dX7_groupOf_44 : decode mX7_groupOf.2.1 44 = .ok (.iconst 3, 1) := by decide +kernel
theorem dX7_groupOf_45 : decode mX7_groupOf.2.1 45 = .ok (.ireturn, 1) := by decide +kernel
theorem dX7_isOperator_0 : decode mX7_isOperator.2.1 0 = .ok (.iload_n 0, 1) := by decide +kernel
theorem dX7_isOperator_1 : decode mX7_isOperator.2.1 1 = .ok (.bipush 43, 2) := by decide +kernel
theorem dX7_isOperator_3 : decode mX7_isOperator.2.1 3 = .ok (.if_icmp .eq 21, 3) := by decide +kernel
theorem dX7_isOperator_6 : decode mX7_isOperator.2.1 6 = .ok (.iload_n 0, 1) := by decide +kernel
theorem dX7_isOperator_7 : decode mX7_isOperator.2.1 7 = .ok (.bipush 45, 2) := by decide +kernel
theorem dX7_isOperator_9 : decode mX7_isOperator.2.1 9 = .ok (.if_icmp .eq 15, 3) := by decide +kernel
theorem dX7_isOperator_12 : decode mX7_isOperator.2.1 12 = .ok (.iload_n 0, 1) := by decide +kernel
theorem dX7_isOperator_13 : decode mX7_isOperator.2.1 13 = .ok (.bipush 42, 2) := by decide +kernel
theorem dX7_isOperator_15 : decode mX7_isOperator.2.1 15 = .ok (.if_icmp .eq 9, 3) := by decide +kernel
theorem dX7_isOperator_18 : decode mX7_isOperator.2.1 18 = .ok (.iload_n 0, 1) := by decide +kernel
theorem dX7_isOperator_19 : decode mX7_isOperator.2.1 19 = .ok (.bipush 47, 2) := by decide +kernel
theorem dX7_isOperator_21 : decode mX7_isOperator.2.1 21 = .ok (.if_icmp .ne 7, 3) := by decide +kernel
theorem dX7_isOperator_24 : decode mX7_isOperator.2.1 24 = .ok (.iconst 1, 1) := by decide +kernel
theorem dX7_isOperator_25 : decode mX7_isOperator.2.1 25 = .ok (.goto 4, 3) := by decide +kernel
theorem dX7_isOperator_28 : decode mX7_isOperator.2.1 28 = .ok (.iconst 0, 1) := by decide +kernel
theorem dX7_isOperator_29 : decode mX7_isOperator.2.1 29 = .ok (.ireturn, 1) := by decide +kernel
theorem dX7_here_0 : decode mX7_here.2.1 0 = .ok (.aload_n 0, 1) := by decide +kernel
theorem dX7_here_1 : decode mX7_here.2.1 1 = .ok (.getfield 38, 3) := by decide +kernel
theorem dX7_here_4 : decode mX7_here.2.1 4 = .ok (.ifCond .lt 26, 3) := by decide +kernel
theorem dX7_here_7 : decode mX7_here.2.1 7 = .ok (.aload_n 0, 1) := by decide +kernel
theorem dX7_here_8 : decode mX7_here.2.1 8 = .ok (.getfield 38, 3) := by decide +kernel
theorem dX7_here_11 : decode mX7_here.2.1 11 = .ok (.aload_n 0, 1) := by decide +kernel
theorem dX7_here_12 : decode mX7_here.2.1 12 = .ok (.getfield 58, 3) := by decide +kernel
theorem dX7_here_15 : decode mX7_here.2.1 15 = .ok (.if_icmp .ge 15, 3) := by decide +kernel
theorem dX7_here_18 : decode mX7_here.2.1 18 = .ok (.aload_n 0, 1) := by decide +kernel
theorem dX7_here_19 : decode mX7_here.2.1 19 = .ok (.getfield 15, 3) := by decide +kernel
theorem dX7_here_22 : decode mX7_here.2.1 22 = .ok (.aload_n 0, 1) := by decide +kernel
theorem dX7_here_23 : decode mX7_here.2.1 23 = .ok (.getfield 38, 3) := by decide +kernel
theorem dX7_here_26 : decode mX7_here.2.1 26 = .ok (.iaload, 1) := by decide +kernel
theorem dX7_here_27 : decode mX7_here.2.1 27 = .ok (.goto 4, 3) := by decide +kernel
theorem dX7_here_30 : decode mX7_here.2.1 30 = .ok (.iconst 0, 1) := by decide +kernel
theorem dX7_here_31 : decode mX7_here.2.1 31 = .ok (.ireturn, 1) := by decide +kernel
theorem dX7_placeHere_0 : decode mX7_placeHere.2.1 0 = .ok (.aload_n 0, 1) := by decide +kernel
theorem dX7_placeHere_1 : decode mX7_placeHere.2.1 1 = .ok (.getfield 38, 3) := by decide +kernel
theorem dX7_placeHere_4 : decode mX7_placeHere.2.1 4 = .ok (.ifCond .lt 26, 3) := by decide +kernel
theorem dX7_placeHere_7 : decode mX7_placeHere.2.1 7 = .ok (.aload_n 0, 1) := by decide +kernel
theorem dX7_placeHere_8 : decode mX7_placeHere.2.1 8 = .ok (.getfield 38, 3) := by decide +kernel
theorem dX7_placeHere_11 : decode mX7_placeHere.2.1 11 = .ok (.aload_n 0, 1) := by decide +kernel
theorem dX7_placeHere_12 : decode mX7_placeHere.2.1 12 = .ok (.getfield 58, 3) := by decide +kernel
theorem dX7_placeHere_15 : decode mX7_placeHere.2.1 15 = .ok (.if_icmp .ge 15, 3) := by decide +kernel
theorem dX7_placeHere_18 : decode mX7_placeHere.2.1 18 = .ok (.aload_n 0, 1) := by decide +kernel
theorem dX7_placeHere_19 : decode mX7_placeHere.2.1 19 = .ok (.getfield 18, 3) := by decide +kernel
theorem dX7_placeHere_22 : decode mX7_placeHere.2.1 22 = .ok (.aload_n 0, 1) := by decide +kernel
theorem dX7_placeHere_23 : decode mX7_placeHere.2.1 23 = .ok (.getfield 38, 3) := by decide +kernel
theorem dX7_placeHere_26 : decode mX7_placeHere.2.1 26 = .ok (.iaload, 1) := by decide +kernel
theorem dX7_placeHere_27 : decode mX7_placeHere.2.1 27 = .ok (.goto 4, 3) := by decide +kernel
theorem dX7_placeHere_30 : decode mX7_placeHere.2.1 30 = .ok (.iconst 0, 1) := by decide +kernel
theorem dX7_placeHere_31 : decode mX7_placeHere.2.1 31 = .ok (.ireturn, 1) := by decide +kernel
theorem dX7_accept_0 : decode mX7_accept.2.1 0 = .ok (.aload_n 0, 1) := by decide +kernel
theorem dX7_accept_1 : decode mX7_accept.2.1 1 = .ok (.getfield 38, 3) := by decide +kernel
theorem dX7_accept_4 : decode mX7_accept.2.1 4 = .ok (.ifCond .lt 31, 3) := by decide +kernel
theorem dX7_accept_7 : decode mX7_accept.2.1 7 = .ok (.aload_n 0, 1) := by decide +kernel
theorem dX7_accept_8 : decode mX7_accept.2.1 8 = .ok (.getfield 38, 3) := by decide +kernel
theorem dX7_accept_11 : decode mX7_accept.2.1 11 = .ok (.aload_n 0, 1) := by decide +kernel
theorem dX7_accept_12 : decode mX7_accept.2.1 12 = .ok (.getfield 58, 3) := by decide +kernel
theorem dX7_accept_15 : decode mX7_accept.2.1 15 = .ok (.if_icmp .ge 20, 3) := by decide +kernel
theorem dX7_accept_18 : decode mX7_accept.2.1 18 = .ok (.aload_n 0, 1) := by decide +kernel
theorem dX7_accept_19 : decode mX7_accept.2.1 19 = .ok (.getfield 15, 3) := by decide +kernel
theorem dX7_accept_22 : decode mX7_accept.2.1 22 = .ok (.aload_n 0, 1) := by decide +kernel
theorem dX7_accept_23 : decode mX7_accept.2.1 23 = .ok (.getfield 38, 3) := by decide +kernel
theorem dX7_accept_26 : decode mX7_accept.2.1 26 = .ok (.iaload, 1) := by decide +kernel
theorem dX7_accept_27 : decode mX7_accept.2.1 27 = .ok (.iload_n 1, 1) := by decide +kernel
theorem dX7_accept_28 : decode mX7_accept.2.1 28 = .ok (.if_icmp .ne 7, 3) := by decide +kernel
theorem dX7_accept_31 : decode mX7_accept.2.1 31 = .ok (.iconst 1, 1) := by decide +kernel
theorem dX7_accept_32 : decode mX7_accept.2.1 32 = .ok (.goto 4, 3) := by decide +kernel
theorem dX7_accept_35 : decode mX7_accept.2.1 35 = .ok (.iconst 0, 1) := by decide +kernel
theorem dX7_accept_36 : decode mX7_accept.2.1 36 = .ok (.istore_n 2, 1) := by decide +kernel
theorem dX7_accept_37 : decode mX7_accept.2.1 37 = .ok (.iload_n 2, 1) := by decide +kernel
theorem dX7_accept_38 : decode mX7_accept.2.1 38 = .ok (.ifCond .eq 13, 3) := by decide +kernel
theorem dX7_accept_41 : decode mX7_accept.2.1 41 = .ok (.aload_n 0, 1) := by decide +kernel
theorem dX7_accept_42 : decode mX7_accept.2.1 42 = .ok (.dup, 1) := by decide +kernel
theorem dX7_accept_43 : decode mX7_accept.2.1 43 = .ok (.getfield 38, 3) := by decide +kernel
theorem dX7_accept_46 : decode mX7_accept.2.1 46 = .ok (.iconst 1, 1) := by decide +kernel
theorem dX7_accept_47 : decode mX7_accept.2.1 47 = .ok (.iadd, 1) := by decide +kernel
theorem dX7_accept_48 : decode mX7_accept.2.1 48 = .ok (.putfield 38, 3) := by decide +kernel
theorem dX7_accept_51 : decode mX7_accept.2.1 51 = .ok (.iload_n 2, 1) := by decide +kernel
theorem dX7_accept_52 : decode mX7_accept.2.1 52 = .ok (.ireturn, 1) := by decide +kernel
theorem dX7_emit_0 : decode mX7_emit.2.1 0 = .ok (.aload_n 0, 1) := by decide +kernel
theorem dX7_emit_1 : decode mX7_emit.2.1 1 = .ok (.getfield 41, 3) := by decide +kernel
theorem dX7_emit_4 : decode mX7_emit.2.1 4 = .ok (.aload_n 0, 1) := by decide +kernel
theorem dX7_emit_5 : decode mX7_emit.2.1 5 = .ok (.getfield 21, 3) := by decide +kernel
theorem dX7_emit_8 : decode mX7_emit.2.1 8 = .ok (.arraylength, 1) := by decide +kernel
theorem dX7_emit_9 : decode mX7_emit.2.1 9 = .ok (.if_icmp .ge 23, 3) := by decide +kernel
theorem dX7_emit_12 : decode mX7_emit.2.1 12 = .ok (.aload_n 0, 1) := by decide +kernel
theorem dX7_emit_13 : decode mX7_emit.2.1 13 = .ok (.getfield 21, 3) := by decide +kernel
theorem dX7_emit_16 : decode mX7_emit.2.1 16 = .ok (.aload_n 0, 1) := by decide +kernel
theorem dX7_emit_17 : decode mX7_emit.2.1 17 = .ok (.getfield 41, 3) := by decide +kernel
theorem dX7_emit_20 : decode mX7_emit.2.1 20 = .ok (.iload_n 1, 1) := by decide +kernel
theorem dX7_emit_21 : decode mX7_emit.2.1 21 = .ok (.iastore, 1) := by decide +kernel
theorem dX7_emit_22 : decode mX7_emit.2.1 22 = .ok (.aload_n 0, 1) := by decide +kernel
theorem dX7_emit_23 : decode mX7_emit.2.1 23 = .ok (.dup, 1) := by decide +kernel
theorem dX7_emit_24 : decode mX7_emit.2.1 24 = .ok (.getfield 41, 3) := by decide +kernel
theorem dX7_emit_27 : decode mX7_emit.2.1 27 = .ok (.iconst 1, 1) := by decide +kernel
theorem dX7_emit_28 : decode mX7_emit.2.1 28 = .ok (.iadd, 1) := by decide +kernel
theorem dX7_emit_29 : decode mX7_emit.2.1 29 = .ok (.putfield 41, 3) := by decide +kernel
theorem dX7_emit_32 : decode mX7_emit.2.1 32 = .ok (.return_, 1) := by decide +kernel
theorem dX7_readAny_0 : decode mX7_readAny.2.1 0 = .ok (.iconst 0, 1) := by decide +kernel
theorem dX7_readAny_1 : decode mX7_readAny.2.1 1 = .ok (.istore_n 2, 1) := by decide +kernel
theorem dX7_readAny_2 : decode mX7_readAny.2.1 2 = .ok (.aload_n 0, 1) := by decide +kernel
theorem dX7_readAny_3 : decode mX7_readAny.2.1 3 = .ok (.iload_n 1, 1) := by decide +kernel
theorem dX7_readAny_4 : decode mX7_readAny.2.1 4 = .ok (.invokevirtual 112, 3) := by decide +kernel
theorem dX7_readAny_7 : decode mX7_readAny.2.1 7 = .ok (.istore_n 3, 1) := by decide +kernel
theorem dX7_readAny_8 : decode mX7_readAny.2.1 8 = .ok (.iconst 0, 1) := by decide +kernel
theorem dX7_readAny_9 : decode mX7_readAny.2.1 9 = .ok (.istore 4, 2) := by decide +kernel
theorem dX7_readAny_11 : decode mX7_readAny.2.1 11 = .ok (.iload 4, 2) := by decide +kernel
theorem dX7_readAny_13 : decode mX7_readAny.2.1 13 = .ok (.sipush 500, 3) := by decide +kernel
theorem dX7_readAny_16 : decode mX7_readAny.2.1 16 = .ok (.if_icmp .ge 94, 3) := by decide +kernel
theorem dX7_readAny_19 : decode mX7_readAny.2.1 19 = .ok (.iload_n 3, 1) := by decide +kernel
theorem dX7_readAny_20 : decode mX7_readAny.2.1 20 = .ok (.ifCond .eq 90, 3) := by decide +kernel
theorem dX7_readAny_23 : decode mX7_readAny.2.1 23 = .ok (.aload_n 0, 1) := by decide +kernel
theorem dX7_readAny_24 : decode mX7_readAny.2.1 24 = .ok (.invokevirtual 47, 3) := by decide +kernel
theorem dX7_readAny_27 : decode mX7_readAny.2.1 27 = .ok (.bipush 7, 2) := by decide +kernel
theorem dX7_readAny_29 : decode mX7_readAny.2.1 29 = .ok (.if_icmp .eq 12, 3) := by decide +kernel
theorem dX7_readAny_32 : decode mX7_readAny.2.1 32 = .ok (.aload_n 0, 1) := by decide +kernel
theorem dX7_readAny_33 : decode mX7_readAny.2.1 33 = .ok (.invokevirtual 47, 3) := by decide +kernel
theorem dX7_readAny_36 : decode mX7_readAny.2.1 36 = .ok (.bipush 6, 2) := by decide +kernel
theorem dX7_readAny_38 : decode mX7_readAny.2.1 38 = .ok (.if_icmp .ne 72, 3) := by decide +kernel
theorem dX7_readAny_41 : decode mX7_readAny.2.1 41 = .ok (.aload_n 0, 1) := by decide +kernel
theorem dX7_readAny_42 : decode mX7_readAny.2.1 42 = .ok (.invokevirtual 47, 3) := by decide +kernel
theorem dX7_readAny_45 : decode mX7_readAny.2.1 45 = .ok (.bipush 7, 2) := by decide +kernel
theorem dX7_readAny_47 : decode mX7_readAny.2.1 47 = .ok (.if_icmp .ne 7, 3) := by decide +kernel
theorem dX7_readAny_50 : decode mX7_readAny.2.1 50 = .ok (.iconst 1, 1) := by decide +kernel
theorem dX7_readAny_51 : decode mX7_readAny.2.1 51 = .ok (.goto 4, 3) := by decide +kernel
theorem dX7_readAny_54 : decode mX7_readAny.2.1 54 = .ok (.iconst 0, 1) := by decide +kernel
theorem dX7_readAny_55 : decode mX7_readAny.2.1 55 = .ok (.istore 5, 2) := by decide +kernel
theorem dX7_readAny_57 : decode mX7_readAny.2.1 57 = .ok (.aload_n 0, 1) := by decide +kernel
theorem dX7_readAny_58 : decode mX7_readAny.2.1 58 = .ok (.dup, 1) := by decide +kernel
theorem dX7_readAny_59 : decode mX7_readAny.2.1 59 = .ok (.getfield 38, 3) := by decide +kernel
theorem dX7_readAny_62 : decode mX7_readAny.2.1 62 = .ok (.iconst 1, 1) := by decide +kernel
theorem dX7_readAny_63 : decode mX7_readAny.2.1 63 = .ok (.iadd, 1) := by decide +kernel
theorem dX7_readAny_64 : decode mX7_readAny.2.1 64 = .ok (.putfield 38, 3) := by decide +kernel
theorem dX7_readAny_67 : decode mX7_readAny.2.1 67 = .ok (.iload 5, 2) := by decide +kernel
theorem dX7_readAny_69 : decode mX7_readAny.2.1 69 = .ok (.ifCond .ne 13, 3) := by decide +kernel
theorem dX7_readAny_72 : decode mX7_readAny.2.1 72 = .ok (.iload_n 2, 1) := by decide +kernel
theorem dX7_readAny_73 : decode mX7_readAny.2.1 73 = .ok (.ifCond .eq 9, 3) := by decide +kernel
theorem dX7_readAny_76 : decode mX7_readAny.2.1 76 = .ok (.aload_n 0, 1) := by decide +kernel
theorem dX7_readAny_77 : decode mX7_readAny.2.1 77 = .ok (.bipush (-6), 2) := by decide +kernel
theorem dX7_readAny_79 : decode mX7_readAny.2.1 79 = .ok (.invokevirtual 99, 3) := by decide +kernel
theorem dX7_readAny_82 : decode mX7_readAny.2.1 82 = .ok (.aload_n 0, 1) := by decide +kernel
theorem dX7_readAny_83 : decode mX7_readAny.2.1 83 = .ok (.iload_n 1, 1) := by decide +kernel
theorem dX7_readAny_84 : decode mX7_readAny.2.1 84 = .ok (.invokevirtual 112, 3) := by decide +kernel
theorem dX7_readAny_87 : decode mX7_readAny.2.1 87 = .ok (.istore_n 3, 1) := by decide +kernel
theorem dX7_readAny_88 : decode mX7_readAny.2.1 88 = .ok (.iload 5, 2) := by decide +kernel
theorem dX7_readAny_90 : decode mX7_readAny.2.1 90 = .ok (.ifCond .eq 12, 3) := by decide +kernel
theorem dX7_readAny_93 : decode mX7_readAny.2.1 93 = .ok (.aload_n 0, 1) := by decide +kernel
theorem dX7_readAny_94 : decode mX7_readAny.2.1 94 = .ok (.bipush (-7), 2) := by decide +kernel
theorem dX7_readAny_96 : decode mX7_readAny.2.1 96 = .ok (.invokevirtual 99, 3) := by decide +kernel
theorem dX7_readAny_99 : decode mX7_readAny.2.1 99 = .ok (.goto 5, 3) := by decide +kernel
theorem dX7_readAny_102 : decode mX7_readAny.2.1 102 = .ok (.iconst 1, 1) := by decide +kernel
theorem dX7_readAny_103 : decode mX7_readAny.2.1 103 = .ok (.istore_n 2, 1) := by decide +kernel
theorem dX7_readAny_104 : decode mX7_readAny.2.1 104 = .ok (.iinc 4 1, 3) := by decide +kernel
theorem dX7_readAny_107 : decode mX7_readAny.2.1 107 = .ok (.goto (-96), 3) := by decide +kernel
theorem dX7_readAny_110 : decode mX7_readAny.2.1 110 = .ok (.iload_n 2, 1) := by decide +kernel
theorem dX7_readAny_111 : decode mX7_readAny.2.1 111 = .ok (.ifCond .eq 9, 3) := by decide +kernel
theorem dX7_readAny_114 : decode mX7_readAny.2.1 114 = .ok (.aload_n 0, 1) := by decide +kernel
theorem dX7_readAny_115 : decode mX7_readAny.2.1 115 = .ok (.bipush (-6), 2) := by decide +kernel
theorem dX7_readAny_117 : decode mX7_readAny.2.1 117 = .ok (.invokevirtual 99, 3) := by decide +kernel
theorem dX7_readAny_120 : decode mX7_readAny.2.1 120 = .ok (.iload_n 3, 1) := by decide +kernel
theorem dX7_readAny_121 : decode mX7_readAny.2.1 121 = .ok (.ireturn, 1) := by decide +kernel
theorem dX7_readOne_0 : decode mX7_readOne.2.1 0 = .ok (.aload_n 0, 1) := by decide +kernel
theorem dX7_readOne_1 : decode mX7_readOne.2.1 1 = .ok (.invokevirtual 47, 3) := by decide +kernel
theorem dX7_readOne_4 : decode mX7_readOne.2.1 4 = .ok (.istore_n 2, 1) := by decide +kernel
theorem dX7_readOne_5 : decode mX7_readOne.2.1 5 = .ok (.iload_n 2, 1) := by decide +kernel
theorem dX7_readOne_6 : decode mX7_readOne.2.1 6 = .ok (.bipush 8, 2) := by decide +kernel
theorem dX7_readOne_8 : decode mX7_readOne.2.1 8 = .ok (.if_icmp .eq 9, 3) := by decide +kernel
theorem dX7_readOne_11 : decode mX7_readOne.2.1 11 = .ok (.iload_n 2, 1) := by decide +kernel
theorem dX7_readOne_12 : decode mX7_readOne.2.1 12 = .ok (.bipush 91, 2) := by decide +kernel
theorem dX7_readOne_14 : decode mX7_readOne.2.1 14 = .ok (.if_icmp .ne 68, 3) := by decide +kernel
theorem dX7_readOne_17 : decode mX7_readOne.2.1 17 = .ok (.iload_n 1, 1) := by decide +kernel
theorem dX7_readOne_18 : decode mX7_readOne.2.1 18 = .ok (.bipush 9, 2) := by decide +kernel
theorem dX7_readOne_20 : decode mX7_readOne.2.1 20 = .ok (.if_icmp .lt 5, 3) := by decide +kernel
theorem dX7_readOne_23 : decode mX7_readOne.2.1 23 = .ok (.iconst 0, 1) := by decide +kernel
theorem dX7_readOne_24 : decode mX7_readOne.2.1 24 = .ok (.ireturn, 1) := by decide +kernel
theorem dX7_readOne_25 : decode mX7_readOne.2.1 25 = .ok (.aload_n 0, 1) := by decide +kernel
theorem dX7_readOne_26 : decode mX7_readOne.2.1 26 = .ok (.dup, 1) := by decide +kernel
theorem dX7_readOne_27 : decode mX7_readOne.2.1 27 = .ok (.getfield 38, 3) := by decide +kernel
theorem dX7_readOne_30 : decode mX7_readOne.2.1 30 = .ok (.iconst 1, 1) := by decide +kernel
theorem dX7_readOne_31 : decode mX7_readOne.2.1 31 = .ok (.iadd, 1) := by decide +kernel
theorem dX7_readOne_32 : decode mX7_readOne.2.1 32 = .ok (.putfield 38, 3) := by decide +kernel
theorem dX7_readOne_35 : decode mX7_readOne.2.1 35 = .ok (.iload_n 2, 1) := by decide +kernel
theorem dX7_readOne_36 : decode mX7_readOne.2.1 36 = .ok (.bipush 91, 2) := by decide +kernel
theorem dX7_readOne_38 : decode mX7_readOne.2.1 38 = .ok (.if_icmp .ne 28, 3) := by decide +kernel
theorem dX7_readOne_41 : decode mX7_readOne.2.1 41 = .ok (.aload_n 0, 1) := by decide +kernel
theorem dX7_readOne_42 : decode mX7_readOne.2.1 42 = .ok (.iload_n 1, 1) := by decide +kernel
theorem dX7_readOne_43 : decode mX7_readOne.2.1 43 = .ok (.iconst 1, 1) := by decide +kernel
theorem dX7_readOne_44 : decode mX7_readOne.2.1 44 = .ok (.iadd, 1) := by decide +kernel
theorem dX7_readOne_45 : decode mX7_readOne.2.1 45 = .ok (.invokevirtual 109, 3) := by decide +kernel
theorem dX7_readOne_48 : decode mX7_readOne.2.1 48 = .ok (.ifCond .eq 16, 3) := by decide +kernel
theorem dX7_readOne_51 : decode mX7_readOne.2.1 51 = .ok (.aload_n 0, 1) := by decide +kernel
theorem dX7_readOne_52 : decode mX7_readOne.2.1 52 = .ok (.bipush 93, 2) := by decide +kernel
theorem dX7_readOne_54 : decode mX7_readOne.2.1 54 = .ok (.invokevirtual 106, 3) := by decide +kernel
theorem dX7_readOne_57 : decode mX7_readOne.2.1 57 = .ok (.ifCond .eq 7, 3) := by decide +kernel
theorem dX7_readOne_60 : decode mX7_readOne.2.1 60 = .ok (.iconst 1, 1) := by decide +kernel
theorem dX7_readOne_61 : decode mX7_readOne.2.1 61 = .ok (.goto 4, 3) := by decide +kernel
theorem dX7_readOne_64 : decode mX7_readOne.2.1 64 = .ok (.iconst 0, 1) := by decide +kernel
theorem dX7_readOne_65 : decode mX7_readOne.2.1 65 = .ok (.ireturn, 1) := by decide +kernel
theorem dX7_readOne_66 : decode mX7_readOne.2.1 66 = .ok (.aload_n 0, 1) := by decide +kernel
theorem dX7_readOne_67 : decode mX7_readOne.2.1 67 = .ok (.iload_n 1, 1) := by decide +kernel
theorem dX7_readOne_68 : decode mX7_readOne.2.1 68 = .ok (.iconst 1, 1) := by decide +kernel
theorem dX7_readOne_69 : decode mX7_readOne.2.1 69 = .ok (.iadd, 1) := by decide +kernel
theorem dX7_readOne_70 : decode mX7_readOne.2.1 70 = .ok (.invokevirtual 112, 3) := by decide +kernel
theorem dX7_readOne_73 : decode mX7_readOne.2.1 73 = .ok (.istore_n 3, 1) := by decide +kernel
theorem dX7_readOne_74 : decode mX7_readOne.2.1 74 = .ok (.aload_n 0, 1) := by decide +kernel
theorem dX7_readOne_75 : decode mX7_readOne.2.1 75 = .ok (.bipush (-8), 2) := by decide +kernel
theorem dX7_readOne_77 : decode mX7_readOne.2.1 77 = .ok (.invokevirtual 99, 3) := by decide +kernel
theorem dX7_readOne_80 : decode mX7_readOne.2.1 80 = .ok (.iload_n 3, 1) := by decide +kernel
theorem dX7_readOne_81 : decode mX7_readOne.2.1 81 = .ok (.ireturn, 1) := by decide +kernel
theorem dX7_readOne_82 : decode mX7_readOne.2.1 82 = .ok (.aload_n 0, 1) := by decide +kernel
theorem dX7_readOne_83 : decode mX7_readOne.2.1 83 = .ok (.iload_n 1, 1) := by decide +kernel
theorem dX7_readOne_84 : decode mX7_readOne.2.1 84 = .ok (.invokevirtual 102, 3) := by decide +kernel
theorem dX7_readOne_87 : decode mX7_readOne.2.1 87 = .ok (.ifCond .ne 5, 3) := by decide +kernel
theorem dX7_readOne_90 : decode mX7_readOne.2.1 90 = .ok (.iconst 0, 1) := by decide +kernel
theorem dX7_readOne_91 : decode mX7_readOne.2.1 91 = .ok (.ireturn, 1) := by decide +kernel
theorem dX7_readOne_92 : decode mX7_readOne.2.1 92 = .ok (.aload_n 0, 1) := by decide +kernel
theorem dX7_readOne_93 : decode mX7_readOne.2.1 93 = .ok (.invokevirtual 47, 3) := by decide +kernel
theorem dX7_readOne_96 : decode mX7_readOne.2.1 96 = .ok (.istore_n 3, 1) := by decide +kernel
theorem dX7_readOne_97 : decode mX7_readOne.2.1 97 = .ok (.iload_n 3, 1) := by decide +kernel
theorem dX7_readOne_98 : decode mX7_readOne.2.1 98 = .ok (.bipush 60, 2) := by decide +kernel
theorem dX7_readOne_100 : decode mX7_readOne.2.1 100 = .ok (.if_icmp .eq 17, 3) := by decide +kernel
theorem dX7_readOne_103 : decode mX7_readOne.2.1 103 = .ok (.iload_n 3, 1) := by decide +kernel
theorem dX7_readOne_104 : decode mX7_readOne.2.1 104 = .ok (.bipush 62, 2) := by decide +kernel
theorem dX7_readOne_106 : decode mX7_readOne.2.1 106 = .ok (.if_icmp .eq 11, 3) := by decide +kernel
theorem dX7_readOne_109 : decode mX7_readOne.2.1 109 = .ok (.iload_n 3, 1) := by decide +kernel
theorem dX7_readOne_110 : decode mX7_readOne.2.1 110 = .ok (.bipush 61, 2) := by decide +kernel
theorem dX7_readOne_112 : decode mX7_readOne.2.1 112 = .ok (.if_icmp .eq 5, 3) := by decide +kernel
theorem dX7_readOne_115 : decode mX7_readOne.2.1 115 = .ok (.iconst 0, 1) := by decide +kernel
theorem dX7_readOne_116 : decode mX7_readOne.2.1 116 = .ok (.ireturn, 1) := by decide +kernel
theorem dX7_readOne_117 : decode mX7_readOne.2.1 117 = .ok (.aload_n 0, 1) := by decide +kernel
theorem dX7_readOne_118 : decode mX7_readOne.2.1 118 = .ok (.dup, 1) := by decide +kernel
theorem dX7_readOne_119 : decode mX7_readOne.2.1 119 = .ok (.getfield 38, 3) := by decide +kernel
theorem dX7_readOne_122 : decode mX7_readOne.2.1 122 = .ok (.iconst 1, 1) := by decide +kernel
theorem dX7_readOne_123 : decode mX7_readOne.2.1 123 = .ok (.iadd, 1) := by decide +kernel
theorem dX7_readOne_124 : decode mX7_readOne.2.1 124 = .ok (.putfield 38, 3) := by decide +kernel
theorem dX7_readOne_127 : decode mX7_readOne.2.1 127 = .ok (.aload_n 0, 1) := by decide +kernel
theorem dX7_readOne_128 : decode mX7_readOne.2.1 128 = .ok (.iload_n 1, 1) := by decide +kernel
theorem dX7_readOne_129 : decode mX7_readOne.2.1 129 = .ok (.invokevirtual 102, 3) := by decide +kernel
theorem dX7_readOne_132 : decode mX7_readOne.2.1 132 = .ok (.istore 4, 2) := by decide +kernel
theorem dX7_readOne_134 : decode mX7_readOne.2.1 134 = .ok (.aload_n 0, 1) := by decide +kernel
theorem dX7_readOne_135 : decode mX7_readOne.2.1 135 = .ok (.iload_n 3, 1) := by decide +kernel
theorem dX7_readOne_136 : decode mX7_readOne.2.1 136 = .ok (.ineg, 1) := by decide +kernel
theorem dX7_readOne_137 : decode mX7_readOne.2.1 137 = .ok (.invokevirtual 99, 3) := by decide +kernel
theorem dX7_readOne_140 : decode mX7_readOne.2.1 140 = .ok (.iload 4, 2) := by decide +kernel
theorem dX7_readOne_142 : decode mX7_readOne.2.1 142 = .ok (.ireturn, 1) := by decide +kernel
theorem dX7_readSum_0 : decode mX7_readSum.2.1 0 = .ok (.iconst 0, 1) := by decide +kernel
theorem dX7_readSum_1 : decode mX7_readSum.2.1 1 = .ok (.istore_n 2, 1) := by decide +kernel
theorem dX7_readSum_2 : decode mX7_readSum.2.1 2 = .ok (.aload_n 0, 1) := by decide +kernel
theorem dX7_readSum_3 : decode mX7_readSum.2.1 3 = .ok (.iload_n 1, 1) := by decide +kernel
theorem dX7_readSum_4 : decode mX7_readSum.2.1 4 = .ok (.invokevirtual 115, 3) := by decide +kernel
theorem dX7_readSum_7 : decode mX7_readSum.2.1 7 = .ok (.istore_n 3, 1) := by decide +kernel
theorem dX7_readSum_8 : decode mX7_readSum.2.1 8 = .ok (.iconst 0, 1) := by decide +kernel
theorem dX7_readSum_9 : decode mX7_readSum.2.1 9 = .ok (.istore 4, 2) := by decide +kernel
theorem dX7_readSum_11 : decode mX7_readSum.2.1 11 = .ok (.iload 4, 2) := by decide +kernel
theorem dX7_readSum_13 : decode mX7_readSum.2.1 13 = .ok (.sipush 500, 3) := by decide +kernel
theorem dX7_readSum_16 : decode mX7_readSum.2.1 16 = .ok (.if_icmp .ge 99, 3) := by decide +kernel
theorem dX7_readSum_19 : decode mX7_readSum.2.1 19 = .ok (.iload_n 3, 1) := by decide +kernel
theorem dX7_readSum_20 : decode mX7_readSum.2.1 20 = .ok (.ifCond .eq 95, 3) := by decide +kernel
theorem dX7_readSum_23 : decode mX7_readSum.2.1 23 = .ok (.aload_n 0, 1) := by decide +kernel
theorem dX7_readSum_24 : decode mX7_readSum.2.1 24 = .ok (.invokevirtual 47, 3) := by decide +kernel
theorem dX7_readSum_27 : decode mX7_readSum.2.1 27 = .ok (.invokestatic 118, 3) := by decide +kernel
theorem dX7_readSum_30 : decode mX7_readSum.2.1 30 = .ok (.ifCond .eq 85, 3) := by decide +kernel
theorem dX7_readSum_33 : decode mX7_readSum.2.1 33 = .ok (.aload_n 0, 1) := by decide +kernel
theorem dX7_readSum_34 : decode mX7_readSum.2.1 34 = .ok (.invokevirtual 47, 3) := by decide +kernel
theorem dX7_readSum_37 : decode mX7_readSum.2.1 37 = .ok (.istore 5, 2) := by decide +kernel
theorem dX7_readSum_39 : decode mX7_readSum.2.1 39 = .ok (.aload_n 0, 1) := by decide +kernel
theorem dX7_readSum_40 : decode mX7_readSum.2.1 40 = .ok (.dup, 1) := by decide +kernel
theorem dX7_readSum_41 : decode mX7_readSum.2.1 41 = .ok (.getfield 38, 3) := by decide +kernel
theorem dX7_readSum_44 : decode mX7_readSum.2.1 44 = .ok (.iconst 1, 1) := by decide +kernel
theorem dX7_readSum_45 : decode mX7_readSum.2.1 45 = .ok (.iadd, 1) := by decide +kernel
theorem dX7_readSum_46 : decode mX7_readSum.2.1 46 = .ok (.putfield 38, 3) := by decide +kernel
theorem dX7_readSum_49 : decode mX7_readSum.2.1 49 = .ok (.iload 5, 2) := by decide +kernel
theorem dX7_readSum_51 : decode mX7_readSum.2.1 51 = .ok (.bipush 42, 2) := by decide +kernel
theorem dX7_readSum_53 : decode mX7_readSum.2.1 53 = .ok (.if_icmp .eq 10, 3) := by decide +kernel
theorem dX7_readSum_56 : decode mX7_readSum.2.1 56 = .ok (.iload 5, 2) := by decide +kernel
theorem dX7_readSum_58 : decode mX7_readSum.2.1 58 = .ok (.bipush 47, 2) := by decide +kernel
theorem dX7_readSum_60 : decode mX7_readSum.2.1 60 = .ok (.if_icmp .ne 7, 3) := by decide +kernel
theorem dX7_readSum_63 : decode mX7_readSum.2.1 63 = .ok (.iconst 1, 1) := by decide +kernel
theorem dX7_readSum_64 : decode mX7_readSum.2.1 64 = .ok (.goto 4, 3) := by decide +kernel
theorem dX7_readSum_67 : decode mX7_readSum.2.1 67 = .ok (.iconst 0, 1) := by decide +kernel
theorem dX7_readSum_68 : decode mX7_readSum.2.1 68 = .ok (.istore 6, 2) := by decide +kernel
theorem dX7_readSum_70 : decode mX7_readSum.2.1 70 = .ok (.iload 6, 2) := by decide +kernel
theorem dX7_readSum_72 : decode mX7_readSum.2.1 72 = .ok (.ifCond .ne 13, 3) := by decide +kernel
theorem dX7_readSum_75 : decode mX7_readSum.2.1 75 = .ok (.iload_n 2, 1) := by decide +kernel
theorem dX7_readSum_76 : decode mX7_readSum.2.1 76 = .ok (.ifCond .eq 9, 3) := by decide +kernel
theorem dX7_readSum_79 : decode mX7_readSum.2.1 79 = .ok (.aload_n 0, 1) := by decide +kernel
theorem dX7_readSum_80 : decode mX7_readSum.2.1 80 = .ok (.iload_n 2, 1) := by decide +kernel
theorem dX7_readSum_81 : decode mX7_readSum.2.1 81 = .ok (.ineg, 1) := by decide +kernel
theorem dX7_readSum_82 : decode mX7_readSum.2.1 82 = .ok (.invokevirtual 99, 3) := by decide +kernel
theorem dX7_readSum_85 : decode mX7_readSum.2.1 85 = .ok (.aload_n 0, 1) := by decide +kernel
theorem dX7_readSum_86 : decode mX7_readSum.2.1 86 = .ok (.iload_n 1, 1) := by decide +kernel
theorem dX7_readSum_87 : decode mX7_readSum.2.1 87 = .ok (.invokevirtual 115, 3) := by decide +kernel
theorem dX7_readSum_90 : decode mX7_readSum.2.1 90 = .ok (.istore_n 3, 1) := by decide +kernel
theorem dX7_readSum_91 : decode mX7_readSum.2.1 91 = .ok (.iload 6, 2) := by decide +kernel
theorem dX7_readSum_93 : decode mX7_readSum.2.1 93 = .ok (.ifCond .eq 13, 3) := by decide +kernel
theorem dX7_readSum_96 : decode mX7_readSum.2.1 96 = .ok (.aload_n 0, 1) := by decide +kernel
theorem dX7_readSum_97 : decode mX7_readSum.2.1 97 = .ok (.iload 5, 2) := by decide +kernel
theorem dX7_readSum_99 : decode mX7_readSum.2.1 99 = .ok (.ineg, 1) := by decide +kernel
theorem dX7_readSum_100 : decode mX7_readSum.2.1 100 = .ok (.invokevirtual 99, 3) := by decide +kernel
theorem dX7_readSum_103 : decode mX7_readSum.2.1 103 = .ok (.goto 6, 3) := by decide +kernel
theorem dX7_readSum_106 : decode mX7_readSum.2.1 106 = .ok (.iload 5, 2) := by decide +kernel
theorem dX7_readSum_108 : decode mX7_readSum.2.1 108 = .ok (.istore_n 2, 1) := by decide +kernel
theorem dX7_readSum_109 : decode mX7_readSum.2.1 109 = .ok (.iinc 4 1, 3) := by decide +kernel
theorem dX7_readSum_112 : decode mX7_readSum.2.1 112 = .ok (.goto (-101), 3) := by decide +kernel
theorem dX7_readSum_115 : decode mX7_readSum.2.1 115 = .ok (.iload_n 2, 1) := by decide +kernel
theorem dX7_readSum_116 : decode mX7_readSum.2.1 116 = .ok (.ifCond .eq 9, 3) := by decide +kernel
theorem dX7_readSum_119 : decode mX7_readSum.2.1 119 = .ok (.aload_n 0, 1) := by decide +kernel
theorem dX7_readSum_120 : decode mX7_readSum.2.1 120 = .ok (.iload_n 2, 1) := by decide +kernel
theorem dX7_readSum_121 : decode mX7_readSum.2.1 121 = .ok (.ineg, 1) := by decide +kernel
theorem dX7_readSum_122 : decode mX7_readSum.2.1 122 = .ok (.invokevirtual 99, 3) := by decide +kernel
theorem dX7_readSum_125 : decode mX7_readSum.2.1 125 = .ok (.iload_n 3, 1) := by decide +kernel
theorem dX7_readSum_126 : decode mX7_readSum.2.1 126 = .ok (.ireturn, 1) := by decide +kernel
theorem dX7_readAtom_0 : decode mX7_readAtom.2.1 0 = .ok (.aload_n 0, 1) := by decide +kernel
theorem dX7_readAtom_1 : decode mX7_readAtom.2.1 1 = .ok (.invokevirtual 47, 3) := by decide +kernel
theorem dX7_readAtom_4 : decode mX7_readAtom.2.1 4 = .ok (.istore_n 2, 1) := by decide +kernel
theorem dX7_readAtom_5 : decode mX7_readAtom.2.1 5 = .ok (.iload_n 2, 1) := by decide +kernel
theorem dX7_readAtom_6 : decode mX7_readAtom.2.1 6 = .ok (.sipush 1000, 3) := by decide +kernel
theorem dX7_readAtom_9 : decode mX7_readAtom.2.1 9 = .ok (.if_icmp .lt 24, 3) := by decide +kernel
theorem dX7_readAtom_12 : decode mX7_readAtom.2.1 12 = .ok (.aload_n 0, 1) := by decide +kernel
theorem dX7_readAtom_13 : decode mX7_readAtom.2.1 13 = .ok (.iload_n 2, 1) := by decide +kernel
theorem dX7_readAtom_14 : decode mX7_readAtom.2.1 14 = .ok (.sipush 1000, 3) := by decide +kernel
theorem dX7_readAtom_17 : decode mX7_readAtom.2.1 17 = .ok (.isub, 1) := by decide +kernel
theorem dX7_readAtom_18 : decode mX7_readAtom.2.1 18 = .ok (.invokevirtual 99, 3) := by decide +kernel
theorem dX7_readAtom_21 : decode mX7_readAtom.2.1 21 = .ok (.aload_n 0, 1) := by decide +kernel
theorem dX7_readAtom_22 : decode mX7_readAtom.2.1 22 = .ok (.dup, 1) := by decide +kernel
theorem dX7_readAtom_23 : decode mX7_readAtom.2.1 23 = .ok (.getfield 38, 3) := by decide +kernel
theorem dX7_readAtom_26 : decode mX7_readAtom.2.1 26 = .ok (.iconst 1, 1) := by decide +kernel
theorem dX7_readAtom_27 : decode mX7_readAtom.2.1 27 = .ok (.iadd, 1) := by decide +kernel
theorem dX7_readAtom_28 : decode mX7_readAtom.2.1 28 = .ok (.putfield 38, 3) := by decide +kernel
theorem dX7_readAtom_31 : decode mX7_readAtom.2.1 31 = .ok (.iconst 1, 1) := by decide +kernel
theorem dX7_readAtom_32 : decode mX7_readAtom.2.1 32 = .ok (.ireturn, 1) := by decide +kernel
theorem dX7_readAtom_33 : decode mX7_readAtom.2.1 33 = .ok (.iload_n 2, 1) := by decide +kernel
theorem dX7_readAtom_34 : decode mX7_readAtom.2.1 34 = .ok (.bipush 9, 2) := by decide +kernel
theorem dX7_readAtom_36 : decode mX7_readAtom.2.1 36 = .ok (.bipush 16, 2) := by decide +kernel
theorem dX7_readAtom_38 : decode mX7_readAtom.2.1 38 = .ok (.invokestatic 95, 3) := by decide +kernel
theorem dX7_readAtom_41 : decode mX7_readAtom.2.1 41 = .ok (.ifCond .eq 21, 3) := by decide +kernel
theorem dX7_readAtom_44 : decode mX7_readAtom.2.1 44 = .ok (.aload_n 0, 1) := by decide +kernel
theorem dX7_readAtom_45 : decode mX7_readAtom.2.1 45 = .ok (.iload_n 2, 1) := by decide +kernel
theorem dX7_readAtom_46 : decode mX7_readAtom.2.1 46 = .ok (.ineg, 1) := by decide +kernel
theorem dX7_readAtom_47 : decode mX7_readAtom.2.1 47 = .ok (.invokevirtual 99, 3) := by decide +kernel
theorem dX7_readAtom_50 : decode mX7_readAtom.2.1 50 = .ok (.aload_n 0, 1) := by decide +kernel
theorem dX7_readAtom_51 : decode mX7_readAtom.2.1 51 = .ok (.dup, 1) := by decide +kernel
theorem dX7_readAtom_52 : decode mX7_readAtom.2.1 52 = .ok (.getfield 38, 3) := by decide +kernel
theorem dX7_readAtom_55 : decode mX7_readAtom.2.1 55 = .ok (.iconst 1, 1) := by decide +kernel
theorem dX7_readAtom_56 : decode mX7_readAtom.2.1 56 = .ok (.iadd, 1) := by decide +kernel
theorem dX7_readAtom_57 : decode mX7_readAtom.2.1 57 = .ok (.putfield 38, 3) := by decide +kernel
theorem dX7_readAtom_60 : decode mX7_readAtom.2.1 60 = .ok (.iconst 1, 1) := by decide +kernel
theorem dX7_readAtom_61 : decode mX7_readAtom.2.1 61 = .ok (.ireturn, 1) := by decide +kernel
theorem dX7_readAtom_62 : decode mX7_readAtom.2.1 62 = .ok (.iload_n 2, 1) := by decide +kernel
theorem dX7_readAtom_63 : decode mX7_readAtom.2.1 63 = .ok (.bipush 40, 2) := by decide +kernel
theorem dX7_readAtom_65 : decode mX7_readAtom.2.1 65 = .ok (.if_icmp .ne 9, 3) := by decide +kernel
theorem dX7_readAtom_68 : decode mX7_readAtom.2.1 68 = .ok (.iload_n 1, 1) := by decide +kernel
theorem dX7_readAtom_69 : decode mX7_readAtom.2.1 69 = .ok (.bipush 9, 2) := by decide +kernel
theorem dX7_readAtom_71 : decode mX7_readAtom.2.1 71 = .ok (.if_icmp .lt 5, 3) := by decide +kernel
theorem dX7_readAtom_74 : decode mX7_readAtom.2.1 74 = .ok (.iconst 0, 1) := by decide +kernel
theorem dX7_readAtom_75 : decode mX7_readAtom.2.1 75 = .ok (.ireturn, 1) := by decide +kernel
theorem dX7_readAtom_76 : decode mX7_readAtom.2.1 76 = .ok (.aload_n 0, 1) := by decide +kernel
theorem dX7_readAtom_77 : decode mX7_readAtom.2.1 77 = .ok (.dup, 1) := by decide +kernel
theorem dX7_readAtom_78 : decode mX7_readAtom.2.1 78 = .ok (.getfield 38, 3) := by decide +kernel
theorem dX7_readAtom_81 : decode mX7_readAtom.2.1 81 = .ok (.iconst 1, 1) := by decide +kernel
theorem dX7_readAtom_82 : decode mX7_readAtom.2.1 82 = .ok (.iadd, 1) := by decide +kernel
theorem dX7_readAtom_83 : decode mX7_readAtom.2.1 83 = .ok (.putfield 38, 3) := by decide +kernel
theorem dX7_readAtom_86 : decode mX7_readAtom.2.1 86 = .ok (.aload_n 0, 1) := by decide +kernel
theorem dX7_readAtom_87 : decode mX7_readAtom.2.1 87 = .ok (.iload_n 1, 1) := by decide +kernel
theorem dX7_readAtom_88 : decode mX7_readAtom.2.1 88 = .ok (.iconst 1, 1) := by decide +kernel
theorem dX7_readAtom_89 : decode mX7_readAtom.2.1 89 = .ok (.iadd, 1) := by decide +kernel
theorem dX7_readAtom_90 : decode mX7_readAtom.2.1 90 = .ok (.invokevirtual 102, 3) := by decide +kernel
theorem dX7_readAtom_93 : decode mX7_readAtom.2.1 93 = .ok (.ifCond .eq 16, 3) := by decide +kernel
theorem dX7_readAtom_96 : decode mX7_readAtom.2.1 96 = .ok (.aload_n 0, 1) := by decide +kernel
theorem dX7_readAtom_97 : decode mX7_readAtom.2.1 97 = .ok (.bipush 41, 2) := by decide +kernel
theorem dX7_readAtom_99 : decode mX7_readAtom.2.1 99 = .ok (.invokevirtual 106, 3) := by decide +kernel
theorem dX7_readAtom_102 : decode mX7_readAtom.2.1 102 = .ok (.ifCond .eq 7, 3) := by decide +kernel
theorem dX7_readAtom_105 : decode mX7_readAtom.2.1 105 = .ok (.iconst 1, 1) := by decide +kernel
theorem dX7_readAtom_106 : decode mX7_readAtom.2.1 106 = .ok (.goto 4, 3) := by decide +kernel
theorem dX7_readAtom_109 : decode mX7_readAtom.2.1 109 = .ok (.iconst 0, 1) := by decide +kernel
theorem dX7_readAtom_110 : decode mX7_readAtom.2.1 110 = .ok (.ireturn, 1) := by decide +kernel
theorem dX7_wordBetween_0 : decode mX7_wordBetween.2.1 0 = .ok (.iconst 1, 1) := by decide +kernel
theorem dX7_wordBetween_1 : decode mX7_wordBetween.2.1 1 = .ok (.istore_n 3, 1) := by decide +kernel
theorem dX7_wordBetween_2 : decode mX7_wordBetween.2.1 2 = .ok (.iconst 0, 1) := by decide +kernel
theorem dX7_wordBetween_3 : decode mX7_wordBetween.2.1 3 = .ok (.istore 4, 2) := by decide +kernel
theorem dX7_wordBetween_5 : decode mX7_wordBetween.2.1 5 = .ok (.iconst 0, 1) := by decide +kernel
theorem dX7_wordBetween_6 : decode mX7_wordBetween.2.1 6 = .ok (.istore 5, 2) := by decide +kernel
theorem dX7_wordBetween_8 : decode mX7_wordBetween.2.1 8 = .ok (.iload 5, 2) := by decide +kernel
theorem dX7_wordBetween_10 : decode mX7_wordBetween.2.1 10 = .ok (.ldc 86, 2) := by decide +kernel
theorem dX7_wordBetween_12 : decode mX7_wordBetween.2.1 12 = .ok (.invokevirtual 88, 3) := by decide +kernel
theorem dX7_wordBetween_15 : decode mX7_wordBetween.2.1 15 = .ok (.if_icmp .ge 80, 3) := by decide +kernel
theorem dX7_wordBetween_18 : decode mX7_wordBetween.2.1 18 = .ok (.ldc 86, 2) := by decide +kernel
theorem dX7_wordBetween_20 : decode mX7_wordBetween.2.1 20 = .ok (.iload 5, 2) := by decide +kernel
theorem dX7_wordBetween_22 : decode mX7_wordBetween.2.1 22 = .ok (.invokevirtual 91, 3) := by decide +kernel
theorem dX7_wordBetween_25 : decode mX7_wordBetween.2.1 25 = .ok (.istore 6, 2) := by decide +kernel
theorem dX7_wordBetween_27 : decode mX7_wordBetween.2.1 27 = .ok (.iload 6, 2) := by decide +kernel
theorem dX7_wordBetween_29 : decode mX7_wordBetween.2.1 29 = .ok (.bipush 32, 2) := by decide +kernel
theorem dX7_wordBetween_31 : decode mX7_wordBetween.2.1 31 = .ok (.if_icmp .ne 22, 3) := by decide +kernel
theorem dX7_wordBetween_34 : decode mX7_wordBetween.2.1 34 = .ok (.iload 4, 2) := by decide +kernel
theorem dX7_wordBetween_36 : decode mX7_wordBetween.2.1 36 = .ok (.iload_n 2, 1) := by decide +kernel
theorem dX7_wordBetween_37 : decode mX7_wordBetween.2.1 37 = .ok (.iload_n 1, 1) := by decide +kernel
theorem dX7_wordBetween_38 : decode mX7_wordBetween.2.1 38 = .ok (.isub, 1) := by decide +kernel
theorem dX7_wordBetween_39 : decode mX7_wordBetween.2.1 39 = .ok (.if_icmp .ne 5, 3) := by decide +kernel
theorem dX7_wordBetween_42 : decode mX7_wordBetween.2.1 42 = .ok (.iload_n 3, 1) := by decide +kernel
theorem dX7_wordBetween_43 : decode mX7_wordBetween.2.1 43 = .ok (.ireturn, 1) := by decide +kernel
theorem dX7_wordBetween_44 : decode mX7_wordBetween.2.1 44 = .ok (.iinc 3 1, 3) := by decide +kernel
theorem dX7_wordBetween_47 : decode mX7_wordBetween.2.1 47 = .ok (.iconst 0, 1) := by decide +kernel
theorem dX7_wordBetween_48 : decode mX7_wordBetween.2.1 48 = .ok (.istore 4, 2) := by decide +kernel
theorem dX7_wordBetween_50 : decode mX7_wordBetween.2.1 50 = .ok (.goto 39, 3) := by decide +kernel
theorem dX7_wordBetween_53 : decode mX7_wordBetween.2.1 53 = .ok (.iload 4, 2) := by decide +kernel
theorem dX7_wordBetween_55 : decode mX7_wordBetween.2.1 55 = .ok (.ifCond .lt 31, 3) := by decide +kernel
theorem dX7_wordBetween_58 : decode mX7_wordBetween.2.1 58 = .ok (.iload_n 1, 1) := by decide +kernel
theorem dX7_wordBetween_59 : decode mX7_wordBetween.2.1 59 = .ok (.iload 4, 2) := by decide +kernel
theorem dX7_wordBetween_61 : decode mX7_wordBetween.2.1 61 = .ok (.iadd, 1) := by decide +kernel
theorem dX7_wordBetween_62 : decode mX7_wordBetween.2.1 62 = .ok (.iload_n 2, 1) := by decide +kernel
theorem dX7_wordBetween_63 : decode mX7_wordBetween.2.1 63 = .ok (.if_icmp .ge 23, 3) := by decide +kernel
theorem dX7_wordBetween_66 : decode mX7_wordBetween.2.1 66 = .ok (.aload_n 0, 1) := by decide +kernel
theorem dX7_wordBetween_67 : decode mX7_wordBetween.2.1 67 = .ok (.getfield 11, 3) := by decide +kernel
theorem dX7_wordBetween_70 : decode mX7_wordBetween.2.1 70 = .ok (.iload_n 1, 1) := by decide +kernel
theorem dX7_wordBetween_71 : decode mX7_wordBetween.2.1 71 = .ok (.iload 4, 2) := by decide +kernel
theorem dX7_wordBetween_73 : decode mX7_wordBetween.2.1 73 = .ok (.iadd, 1) := by decide +kernel
theorem dX7_wordBetween_74 : decode mX7_wordBetween.2.1 74 = .ok (.iaload, 1) := by decide +kernel
theorem dX7_wordBetween_75 : decode mX7_wordBetween.2.1 75 = .ok (.iload 6, 2) := by decide +kernel
theorem dX7_wordBetween_77 : decode mX7_wordBetween.2.1 77 = .ok (.if_icmp .ne 9, 3) := by decide +kernel
theorem dX7_wordBetween_80 : decode mX7_wordBetween.2.1 80 = .ok (.iinc 4 1, 3) := by decide +kernel
theorem dX7_wordBetween_83 : decode mX7_wordBetween.2.1 83 = .ok (.goto 6, 3) := by decide +kernel
theorem dX7_wordBetween_86 : decode mX7_wordBetween.2.1 86 = .ok (.iconst (-1), 1) := by decide +kernel
theorem dX7_wordBetween_87 : decode mX7_wordBetween.2.1 87 = .ok (.istore 4, 2) := by decide +kernel
theorem dX7_wordBetween_89 : decode mX7_wordBetween.2.1 89 = .ok (.iinc 5 1, 3) := by decide +kernel
theorem dX7_wordBetween_92 : decode mX7_wordBetween.2.1 92 = .ok (.goto (-84), 3) := by decide +kernel
theorem dX7_wordBetween_95 : decode mX7_wordBetween.2.1 95 = .ok (.iconst (-1), 1) := by decide +kernel
theorem dX7_wordBetween_96 : decode mX7_wordBetween.2.1 96 = .ok (.ireturn, 1) := by decide +kernel
theorem dX7_tokenFrom_0 : decode mX7_tokenFrom.2.1 0 = .ok (.iload_n 3, 1) := by decide +kernel
theorem dX7_tokenFrom_1 : decode mX7_tokenFrom.2.1 1 = .ok (.iconst 3, 1) := by decide +kernel
theorem dX7_tokenFrom_2 : decode mX7_tokenFrom.2.1 2 = .ok (.if_icmp .ne 29, 3) := by decide +kernel
theorem dX7_tokenFrom_5 : decode mX7_tokenFrom.2.1 5 = .ok (.ldc 73, 2) := by decide +kernel
theorem dX7_tokenFrom_7 : decode mX7_tokenFrom.2.1 7 = .ok (.aload_n 0, 1) := by decide +kernel
theorem dX7_tokenFrom_8 : decode mX7_tokenFrom.2.1 8 = .ok (.getfield 11, 3) := by decide +kernel
theorem dX7_tokenFrom_11 : decode mX7_tokenFrom.2.1 11 = .ok (.iload_n 1, 1) := by decide +kernel
theorem dX7_tokenFrom_12 : decode mX7_tokenFrom.2.1 12 = .ok (.iaload, 1) := by decide +kernel
theorem dX7_tokenFrom_13 : decode mX7_tokenFrom.2.1 13 = .ok (.i2c, 1) := by decide +kernel
theorem dX7_tokenFrom_14 : decode mX7_tokenFrom.2.1 14 = .ok (.invokevirtual 75, 3) := by decide +kernel
theorem dX7_tokenFrom_17 : decode mX7_tokenFrom.2.1 17 = .ok (.ifCond .lt 12, 3) := by decide +kernel
theorem dX7_tokenFrom_20 : decode mX7_tokenFrom.2.1 20 = .ok (.aload_n 0, 1) := by decide +kernel
theorem dX7_tokenFrom_21 : decode mX7_tokenFrom.2.1 21 = .ok (.getfield 11, 3) := by decide +kernel
theorem dX7_tokenFrom_24 : decode mX7_tokenFrom.2.1 24 = .ok (.iload_n 1, 1) := by decide +kernel
theorem dX7_tokenFrom_25 : decode mX7_tokenFrom.2.1 25 = .ok (.iaload, 1) := by decide +kernel
theorem dX7_tokenFrom_26 : decode mX7_tokenFrom.2.1 26 = .ok (.goto 4, 3) := by decide +kernel
theorem dX7_tokenFrom_29 : decode mX7_tokenFrom.2.1 29 = .ok (.iconst (-1), 1) := by decide +kernel
theorem dX7_tokenFrom_30 : decode mX7_tokenFrom.2.1 30 = .ok (.ireturn, 1) := by decide +kernel
theorem dX7_tokenFrom_31 : decode mX7_tokenFrom.2.1 31 = .ok (.iload_n 1, 1) := by decide +kernel
theorem dX7_tokenFrom_32 : decode mX7_tokenFrom.2.1 32 = .ok (.istore 4, 2) := by decide +kernel
theorem dX7_tokenFrom_34 : decode mX7_tokenFrom.2.1 34 = .ok (.iload 4, 2) := by decide +kernel
theorem dX7_tokenFrom_36 : decode mX7_tokenFrom.2.1 36 = .ok (.iload_n 2, 1) := by decide +kernel
theorem dX7_tokenFrom_37 : decode mX7_tokenFrom.2.1 37 = .ok (.if_icmp .ge 23, 3) := by decide +kernel
theorem dX7_tokenFrom_40 : decode mX7_tokenFrom.2.1 40 = .ok (.aload_n 0, 1) := by decide +kernel
theorem dX7_tokenFrom_41 : decode mX7_tokenFrom.2.1 41 = .ok (.getfield 11, 3) := by decide +kernel
theorem dX7_tokenFrom_44 : decode mX7_tokenFrom.2.1 44 = .ok (.iload 4, 2) := by decide +kernel
theorem dX7_tokenFrom_46 : decode mX7_tokenFrom.2.1 46 = .ok (.iaload, 1) := by decide +kernel
theorem dX7_tokenFrom_47 : decode mX7_tokenFrom.2.1 47 = .ok (.invokestatic 61, 3) := by decide +kernel
theorem dX7_tokenFrom_50 : decode mX7_tokenFrom.2.1 50 = .ok (.iload_n 3, 1) := by decide +kernel
theorem dX7_tokenFrom_51 : decode mX7_tokenFrom.2.1 51 = .ok (.if_icmp .ne 9, 3) := by decide +kernel
theorem dX7_tokenFrom_54 : decode mX7_tokenFrom.2.1 54 = .ok (.iinc 4 1, 3) := by decide +kernel
theorem dX7_tokenFrom_57 : decode mX7_tokenFrom.2.1 57 = .ok (.goto (-23), 3) := by decide +kernel
theorem dX7_tokenFrom_60 : decode mX7_tokenFrom.2.1 60 = .ok (.iload_n 3, 1) := by decide +kernel
theorem dX7_tokenFrom_61 : decode mX7_tokenFrom.2.1 61 = .ok (.iconst 1, 1) := by decide +kernel
theorem dX7_tokenFrom_62 : decode mX7_tokenFrom.2.1 62 = .ok (.if_icmp .ne 13, 3) := by decide +kernel
theorem dX7_tokenFrom_65 : decode mX7_tokenFrom.2.1 65 = .ok (.aload_n 0, 1) := by decide +kernel
theorem dX7_tokenFrom_66 : decode mX7_tokenFrom.2.1 66 = .ok (.iload_n 1, 1) := by decide +kernel
theorem dX7_tokenFrom_67 : decode mX7_tokenFrom.2.1 67 = .ok (.iload 4, 2) := by decide +kernel
theorem dX7_tokenFrom_69 : decode mX7_tokenFrom.2.1 69 = .ok (.invokevirtual 80, 3) := by decide +kernel
theorem dX7_tokenFrom_72 : decode mX7_tokenFrom.2.1 72 = .ok (.goto 10, 3) := by decide +kernel
theorem dX7_tokenFrom_75 : decode mX7_tokenFrom.2.1 75 = .ok (.aload_n 0, 1) := by decide +kernel
theorem dX7_tokenFrom_76 : decode mX7_tokenFrom.2.1 76 = .ok (.iload_n 1, 1) := by decide +kernel
theorem dX7_tokenFrom_77 : decode mX7_tokenFrom.2.1 77 = .ok (.iload 4, 2) := by decide +kernel
theorem dX7_tokenFrom_79 : decode mX7_tokenFrom.2.1 79 = .ok (.invokevirtual 83, 3) := by decide +kernel
theorem dX7_tokenFrom_82 : decode mX7_tokenFrom.2.1 82 = .ok (.ireturn, 1) := by decide +kernel
def w_X7_hasRoomForFive (M : am_I) (N : am_N) (post : Int32 → am_I → am_N → Prop) : Prop :=
  ((500 < ((M (0, 0, 7) 4) + 20) → post 0 M N) ∧ (¬ 500 < ((M (0, 0, 7) 4) + 20) → post 1 M N))
set_option maxRecDepth 10000 in
theorem k_X7_hasRoomForFive {d : Nat} {dm : List am_C} (h0 : am_d0 dm) {M : am_I} {N : am_N} {post : Int32 → am_I → am_N → Prop} (h : w_X7_hasRoomForFive M N post) : jg (d + 1) mX7_hasRoomForFive dm 0 [(0, .inr (.inr (0, 0, 7)))] [] M N (am_pi post) := by
  refine j_aload_n 0 dX7_hasRoomForFive_0 rfl ?_
  refine j_getI dX7_hasRoomForFive_1 fsRX7_24 (h0 7 (by decide)) rfl ?_
  refine j_bipush (v := 20) dX7_hasRoomForFive_4 (by decide) ?_
  refine j_iadd dX7_hasRoomForFive_6 ?_
  refine j_sipush (v := 500) dX7_hasRoomForFive_7 (by decide) ?_
  refine j_icmp_gt (tgt := 17) dX7_hasRoomForFive_10 (by decide) (fun hc => ?_) (fun hc => ?_)
  · replace h := h.1 hc
    refine j_iconst (v := 0) dX7_hasRoomForFive_17 (by decide) ?_
    exact j_zret dX7_hasRoomForFive_18 rfl (Or.inl rfl) ⟨_, rfl, h⟩
  · replace h := h.2 hc
    refine j_iconst (v := 1) dX7_hasRoomForFive_13 (by decide) ?_
    refine j_goto (tgt := 18) dX7_hasRoomForFive_14 (by decide) ?_
    exact j_zret dX7_hasRoomForFive_18 rfl (Or.inr rfl) ⟨_, rfl, h⟩
def w_X7_append_p3_b (post : am_I → am_N → Prop) (zk3 : Int32 → Int32 → am_I → am_N → Prop) (l1 : Int32) (l2 : Int32) (M : am_I) (N : am_N) : Prop :=
  ((l2 < 0 → post M N) ∧ (¬ l2 < 0 → ((500 ≤ (M (0, 0, 7) 4) → post M N) ∧ (¬ 500 ≤ (M (0, 0, 7) 4) → vp_in (M (0, 0, 7) 4) 500 ∧ zk3 l1 (l2 + (-8)) (am_u (am_u M (0, 0, 8) (M (0, 0, 7) 4).toNatClampNeg ((l1 >>> (l2 &&& 31)) &&& 255)) (0, 0, 7) 4 (((am_u M (0, 0, 8) (M (0, 0, 7) 4).toNatClampNeg ((l1 >>> (l2 &&& 31)) &&& 255)) (0, 0, 7) 4) + 1)) N))))
noncomputable def w_X7_append_p3 (post : am_I → am_N → Prop) (n : Nat) : Int32 → Int32 → am_I → am_N → Prop :=
  Nat.rec (motive := fun _ => Int32 → Int32 → am_I → am_N → Prop) (fun _ _ _ _ => False) (fun _ zk => w_X7_append_p3_b post zk) n
theorem w_X7_append_p3_s (post : am_I → am_N → Prop) (n : Nat) (l1 : Int32) (l2 : Int32) (M : am_I) (N : am_N) : w_X7_append_p3 post (n + 1) l1 l2 M N = w_X7_append_p3_b post (w_X7_append_p3 post n) l1 l2 M N := rfl
set_option maxRecDepth 10000 in
theorem k_X7_append_p3 {d : Nat} {dm : List am_C} (h0 : am_d0 dm) {post : am_I → am_N → Prop} : ∀ (n : Nat) (l1 : Int32) (l2 : Int32) (M : am_I) (N : am_N), w_X7_append_p3 post n l1 l2 M N → jg (d + 1) mX7_append dm 3 [(0, .inr (.inr (0, 0, 7))), (1, .inl l1), (2, .inl l2)] [] M N (am_pv post) := by
  intro n
  induction n with
  | zero => intro l1 l2 M N h; exact h.elim
  | succ n zih =>
    intro l1 l2 M N h
    replace h : w_X7_append_p3_b post (w_X7_append_p3 post n) l1 l2 M N := h
    refine j_iload_n 2 dX7_append_3 rfl ?_
    refine j_if_lt (tgt := 49) dX7_append_4 (by decide) (fun hc => ?_) (fun hc => ?_)
    · replace h := h.1 hc
      exact j_vret dX7_append_49 rfl ⟨rfl, h⟩
    · replace h := h.2 hc
      refine j_aload_n 0 dX7_append_7 rfl ?_
      refine j_getI dX7_append_8 fsRX7_24 (h0 7 (by decide)) rfl ?_
      refine j_sipush (v := 500) dX7_append_11 (by decide) ?_
      refine j_icmp_ge (tgt := 49) dX7_append_14 (by decide) (fun hc => ?_) (fun hc => ?_)
      · replace h := h.1 hc
        exact j_vret dX7_append_49 rfl ⟨rfl, h⟩
      · replace h := h.2 hc
        refine j_aload_n 0 dX7_append_17 rfl ?_
        refine j_getR (b := (0, 0, 8)) dX7_append_18 fsRX7_11 (h0 7 (by decide)) rfl rfl ?_
        refine j_aload_n 0 dX7_append_21 rfl ?_
        refine j_getI dX7_append_22 fsRX7_24 (h0 7 (by decide)) rfl ?_
        refine j_iload_n 1 dX7_append_25 rfl ?_
        refine j_iload_n 2 dX7_append_26 rfl ?_
        refine j_ishr dX7_append_27 ?_
        refine j_sipush (v := 255) dX7_append_28 (by decide) ?_
        refine j_iand dX7_append_31 ?_
        obtain ⟨hq, h⟩ := h
        refine j_iast dX7_append_32 (h0 8 (by decide)) rfl hq ?_
        refine j_aload_n 0 dX7_append_33 rfl ?_
        refine j_dup dX7_append_34 rfl ?_
        refine j_getI dX7_append_35 fsRX7_24 (h0 7 (by decide)) rfl ?_
        refine j_iconst (v := 1) dX7_append_38 (by decide) ?_
        refine j_iadd dX7_append_39 ?_
        refine j_putI dX7_append_40 fwRX7_24 (h0 7 (by decide)) rfl ?_
        refine j_iinc 2 dX7_append_43 rfl rfl (by decide) rfl ?_
        refine j_goto (tgt := 3) dX7_append_46 (by decide) ?_
        refine j_sub [1, 2, 0] rfl ?_
        exact zih _ _ _ _ h
def w_X7_append (a1 : Int32) (M : am_I) (N : am_N) (post : am_I → am_N → Prop) : Prop :=
  ∃ n, w_X7_append_p3 post n a1 24 M N
set_option maxRecDepth 10000 in
theorem k_X7_append {d : Nat} {dm : List am_C} (h0 : am_d0 dm) {a1 : Int32} {M : am_I} {N : am_N} {post : am_I → am_N → Prop} (h : w_X7_append a1 M N post) : jg (d + 1) mX7_append dm 0 [(0, .inr (.inr (0, 0, 7))), (1, .inl a1)] [] M N (am_pv post) := by
  refine j_bipush (v := 24) dX7_append_0 (by decide) ?_
  refine j_istore_n dX7_append_2 (by decide) rfl ?_
  refine j_sub [1, 2, 0] rfl ?_
  obtain ⟨n, h⟩ := h
  exact k_X7_append_p3 h0 n _ _ _ _ h
def w_X7_addToken (a1 : Int32) (a2 : Int32) (M : am_I) (N : am_N) (post : am_I → am_N → Prop) : Prop :=
  ((501 ≤ (M (0, 0, 7) 5) → post M N) ∧ (¬ 501 ≤ (M (0, 0, 7) 5) → vp_in (M (0, 0, 7) 5) 501 ∧ vp_in ((am_u M (0, 0, 9) (M (0, 0, 7) 5).toNatClampNeg a1) (0, 0, 7) 5) 501 ∧ post (am_u (am_u (am_u M (0, 0, 9) (M (0, 0, 7) 5).toNatClampNeg a1) (0, 0, 10) ((am_u M (0, 0, 9) (M (0, 0, 7) 5).toNatClampNeg a1) (0, 0, 7) 5).toNatClampNeg a2) (0, 0, 7) 5 (((am_u (am_u M (0, 0, 9) (M (0, 0, 7) 5).toNatClampNeg a1) (0, 0, 10) ((am_u M (0, 0, 9) (M (0, 0, 7) 5).toNatClampNeg a1) (0, 0, 7) 5).toNatClampNeg a2) (0, 0, 7) 5) + 1)) N))
set_option maxRecDepth 10000 in
theorem k_X7_addToken {d : Nat} {dm : List am_C} (h0 : am_d0 dm) {a1 : Int32} {a2 : Int32} {M : am_I} {N : am_N} {post : am_I → am_N → Prop} (h : w_X7_addToken a1 a2 M N post) : jg (d + 1) mX7_addToken dm 0 [(0, .inr (.inr (0, 0, 7))), (1, .inl a1), (2, .inl a2)] [] M N (am_pv post) := by
  refine j_aload_n 0 dX7_addToken_0 rfl ?_
  refine j_getI dX7_addToken_1 fsRX7_58 (h0 7 (by decide)) rfl ?_
  refine j_aload_n 0 dX7_addToken_4 rfl ?_
  refine j_getR (b := (0, 0, 9)) dX7_addToken_5 fsRX7_15 (h0 7 (by decide)) rfl rfl ?_
  refine j_aleni (v := 501) dX7_addToken_8 (h0 9 (by decide)) rfl (by decide) ?_
  refine j_icmp_ge (tgt := 42) dX7_addToken_9 (by decide) (fun hc => ?_) (fun hc => ?_)
  · replace h := h.1 hc
    exact j_vret dX7_addToken_42 rfl ⟨rfl, h⟩
  · replace h := h.2 hc
    refine j_aload_n 0 dX7_addToken_12 rfl ?_
    refine j_getR (b := (0, 0, 9)) dX7_addToken_13 fsRX7_15 (h0 7 (by decide)) rfl rfl ?_
    refine j_aload_n 0 dX7_addToken_16 rfl ?_
    refine j_getI dX7_addToken_17 fsRX7_58 (h0 7 (by decide)) rfl ?_
    refine j_iload_n 1 dX7_addToken_20 rfl ?_
    obtain ⟨hq, h⟩ := h
    refine j_iast dX7_addToken_21 (h0 9 (by decide)) rfl hq ?_
    refine j_aload_n 0 dX7_addToken_22 rfl ?_
    refine j_getR (b := (0, 0, 10)) dX7_addToken_23 fsRX7_18 (h0 7 (by decide)) rfl rfl ?_
    refine j_aload_n 0 dX7_addToken_26 rfl ?_
    refine j_getI dX7_addToken_27 fsRX7_58 (h0 7 (by decide)) rfl ?_
    refine j_iload_n 2 dX7_addToken_30 rfl ?_
    obtain ⟨hq, h⟩ := h
    refine j_iast dX7_addToken_31 (h0 10 (by decide)) rfl hq ?_
    refine j_aload_n 0 dX7_addToken_32 rfl ?_
    refine j_dup dX7_addToken_33 rfl ?_
    refine j_getI dX7_addToken_34 fsRX7_58 (h0 7 (by decide)) rfl ?_
    refine j_iconst (v := 1) dX7_addToken_37 (by decide) ?_
    refine j_iadd dX7_addToken_38 ?_
    refine j_putI dX7_addToken_39 fwRX7_58 (h0 7 (by decide)) rfl ?_
    exact j_vret dX7_addToken_42 rfl ⟨rfl, h⟩
def w_X7_numberBetween_p14_b (post : Int32 → am_I → am_N → Prop) (zk14 : Int32 → Int32 → Int32 → am_I → am_N → Prop) (l2 : Int32) (l3 : Int32) (l4 : Int32) (M : am_I) (N : am_N) : Prop :=
  ((l2 ≤ l4 → post (1000 + l3) M N) ∧ (¬ l2 ≤ l4 → vp_in l4 500 ∧ ∀ zv1 : Int32, zv1 = ((l3 * 10) + (M (0, 0, 8) l4.toNatClampNeg)) - 48 → zk14 l2 zv1 (l4 + 1) M N))
noncomputable def w_X7_numberBetween_p14 (post : Int32 → am_I → am_N → Prop) (n : Nat) : Int32 → Int32 → Int32 → am_I → am_N → Prop :=
  Nat.rec (motive := fun _ => Int32 → Int32 → Int32 → am_I → am_N → Prop) (fun _ _ _ _ _ => False) (fun _ zk => w_X7_numberBetween_p14_b post zk) n
theorem w_X7_numberBetween_p14_s (post : Int32 → am_I → am_N → Prop) (n : Nat) (l2 : Int32) (l3 : Int32) (l4 : Int32) (M : am_I) (N : am_N) : w_X7_numberBetween_p14 post (n + 1) l2 l3 l4 M N = w_X7_numberBetween_p14_b post (w_X7_numberBetween_p14 post n) l2 l3 l4 M N := rfl
set_option maxRecDepth 10000 in
theorem k_X7_numberBetween_p14 {d : Nat} {dm : List am_C} (h0 : am_d0 dm) {post : Int32 → am_I → am_N → Prop} : ∀ (n : Nat) (l2 : Int32) (l3 : Int32) (l4 : Int32) (M : am_I) (N : am_N), w_X7_numberBetween_p14 post n l2 l3 l4 M N → jg (d + 1) mX7_numberBetween dm 14 [(0, .inr (.inr (0, 0, 7))), (2, .inl l2), (3, .inl l3), (4, .inl l4)] [] M N (am_pi post) := by
  intro n
  induction n with
  | zero => intro l2 l3 l4 M N h; exact h.elim
  | succ n zih =>
    intro l2 l3 l4 M N h
    replace h : w_X7_numberBetween_p14_b post (w_X7_numberBetween_p14 post n) l2 l3 l4 M N := h
    refine j_iload 3 dX7_numberBetween_14 rfl ?_
    refine j_iload_n 1 dX7_numberBetween_16 rfl ?_
    refine j_icmp_ge (tgt := 42) dX7_numberBetween_17 (by decide) (fun hc => ?_) (fun hc => ?_)
    · replace h := h.1 hc
      refine j_sipush (v := 1000) dX7_numberBetween_42 (by decide) ?_
      refine j_iload_n 2 dX7_numberBetween_45 rfl ?_
      refine j_iadd dX7_numberBetween_46 ?_
      exact j_iret dX7_numberBetween_47 rfl ⟨_, rfl, h⟩
    · replace h := h.2 hc
      refine j_iload_n 2 dX7_numberBetween_20 rfl ?_
      refine j_bipush (v := 10) dX7_numberBetween_21 (by decide) ?_
      refine j_imul dX7_numberBetween_23 ?_
      refine j_aload_n 0 dX7_numberBetween_24 rfl ?_
      refine j_getR (b := (0, 0, 8)) dX7_numberBetween_25 fsRX7_11 (h0 7 (by decide)) rfl rfl ?_
      refine j_iload 3 dX7_numberBetween_28 rfl ?_
      obtain ⟨hq, h⟩ := h
      refine j_iald dX7_numberBetween_30 (h0 8 (by decide)) rfl hq ?_
      refine j_iadd dX7_numberBetween_31 ?_
      refine j_bipush (v := 48) dX7_numberBetween_32 (by decide) ?_
      refine j_isub dX7_numberBetween_34 ?_
      refine j_topi (fun zv1 hzv1 => ?_)
      replace h := h zv1 hzv1
      refine j_istore_n dX7_numberBetween_35 (by decide) rfl ?_
      refine j_iinc 3 dX7_numberBetween_36 rfl rfl (by decide) rfl ?_
      refine j_goto (tgt := 14) dX7_numberBetween_39 (by decide) ?_
      refine j_sub [2, 3, 1, 0] rfl ?_
      exact zih _ _ _ _ _ h
def w_X7_numberBetween (a1 : Int32) (a2 : Int32) (M : am_I) (N : am_N) (post : Int32 → am_I → am_N → Prop) : Prop :=
  (((a2 - a1) ≤ 5 → ∃ n, w_X7_numberBetween_p14 post n a2 0 a1 M N) ∧ (¬ (a2 - a1) ≤ 5 → post (-1) M N))
set_option maxRecDepth 10000 in
theorem k_X7_numberBetween {d : Nat} {dm : List am_C} (h0 : am_d0 dm) {a1 : Int32} {a2 : Int32} {M : am_I} {N : am_N} {post : Int32 → am_I → am_N → Prop} (h : w_X7_numberBetween a1 a2 M N post) : jg (d + 1) mX7_numberBetween dm 0 [(0, .inr (.inr (0, 0, 7))), (1, .inl a1), (2, .inl a2)] [] M N (am_pi post) := by
  refine j_iload_n 2 dX7_numberBetween_0 rfl ?_
  refine j_iload_n 1 dX7_numberBetween_1 rfl ?_
  refine j_isub dX7_numberBetween_2 ?_
  refine j_iconst (v := 5) dX7_numberBetween_3 (by decide) ?_
  refine j_icmp_le (tgt := 9) dX7_numberBetween_4 (by decide) (fun hc => ?_) (fun hc => ?_)
  · replace h := h.1 hc
    refine j_iconst (v := 0) dX7_numberBetween_9 (by decide) ?_
    refine j_istore_n dX7_numberBetween_10 (by decide) rfl ?_
    refine j_iload_n 2 dX7_numberBetween_11 rfl ?_
    refine j_istore dX7_numberBetween_12 (by decide) rfl ?_
    refine j_sub [2, 4, 1, 0] rfl ?_
    obtain ⟨n, h⟩ := h
    exact k_X7_numberBetween_p14 h0 n _ _ _ _ _ h
  · replace h := h.2 hc
    refine j_iconst (v := (-1)) dX7_numberBetween_7 (by decide) ?_
    exact j_iret dX7_numberBetween_8 rfl ⟨_, rfl, h⟩
def w_X7_groupOf_p28 (post : Int32 → am_I → am_N → Prop) (l0 : Int32) (M : am_I) (N : am_N) : Prop :=
  ((l0 < 48 → post 3 M N) ∧ (¬ l0 < 48 → ((57 < l0 → post 3 M N) ∧ (¬ 57 < l0 → post 2 M N))))
set_option maxRecDepth 10000 in
theorem k_X7_groupOf_p28 {d : Nat} {dm : List am_C}  {post : Int32 → am_I → am_N → Prop} (l0 : Int32) (M : am_I) (N : am_N) (h : w_X7_groupOf_p28 post l0 M N) : jg (d + 1) mX7_groupOf dm 28 [(0, .inl l0)] [] M N (am_pi post) := by
  refine j_iload_n 0 dX7_groupOf_28 rfl ?_
  refine j_bipush (v := 48) dX7_groupOf_29 (by decide) ?_
  refine j_icmp_lt (tgt := 44) dX7_groupOf_31 (by decide) (fun hc => ?_) (fun hc => ?_)
  · replace h := h.1 hc
    refine j_iconst (v := 3) dX7_groupOf_44 (by decide) ?_
    exact j_iret dX7_groupOf_45 rfl ⟨_, rfl, h⟩
  · replace h := h.2 hc
    refine j_iload_n 0 dX7_groupOf_34 rfl ?_
    refine j_bipush (v := 57) dX7_groupOf_35 (by decide) ?_
    refine j_icmp_gt (tgt := 44) dX7_groupOf_37 (by decide) (fun hc => ?_) (fun hc => ?_)
    · replace h := h.1 hc
      refine j_iconst (v := 3) dX7_groupOf_44 (by decide) ?_
      exact j_iret dX7_groupOf_45 rfl ⟨_, rfl, h⟩
    · replace h := h.2 hc
      refine j_iconst (v := 2) dX7_groupOf_40 (by decide) ?_
      refine j_goto (tgt := 45) dX7_groupOf_41 (by decide) ?_
      exact j_iret dX7_groupOf_45 rfl ⟨_, rfl, h⟩
def w_X7_groupOf (a1 : Int32) (M : am_I) (N : am_N) (post : Int32 → am_I → am_N → Prop) : Prop :=
  ((a1 = 32 → post 0 M N) ∧ (¬ a1 = 32 → ((¬ a1 = 10 → ((a1 < 97 → w_X7_groupOf_p28 post a1 M N) ∧ (¬ a1 < 97 → ((122 < a1 → w_X7_groupOf_p28 post a1 M N) ∧ (¬ 122 < a1 → post 1 M N))))) ∧ (a1 = 10 → post 0 M N))))
set_option maxRecDepth 10000 in
theorem k_X7_groupOf {d : Nat} {dm : List am_C}  {a1 : Int32} {M : am_I} {N : am_N} {post : Int32 → am_I → am_N → Prop} (h : w_X7_groupOf a1 M N post) : jg (d + 1) mX7_groupOf dm 0 [(0, .inl a1)] [] M N (am_pi post) := by
  refine j_iload_n 0 dX7_groupOf_0 rfl ?_
  refine j_bipush (v := 32) dX7_groupOf_1 (by decide) ?_
  refine j_icmp_eq (tgt := 12) dX7_groupOf_3 (by decide) (fun hc => ?_) (fun hc => ?_)
  · replace h := h.1 hc
    refine j_iconst (v := 0) dX7_groupOf_12 (by decide) ?_
    exact j_iret dX7_groupOf_13 rfl ⟨_, rfl, h⟩
  · replace h := h.2 hc
    refine j_iload_n 0 dX7_groupOf_6 rfl ?_
    refine j_bipush (v := 10) dX7_groupOf_7 (by decide) ?_
    refine j_icmp_ne (tgt := 14) dX7_groupOf_9 (by decide) (fun hc => ?_) (fun hc => ?_)
    · replace h := h.1 hc
      refine j_iload_n 0 dX7_groupOf_14 rfl ?_
      refine j_bipush (v := 97) dX7_groupOf_15 (by decide) ?_
      refine j_icmp_lt (tgt := 28) dX7_groupOf_17 (by decide) (fun hc => ?_) (fun hc => ?_)
      · replace h := h.1 hc
        refine j_sub [0] rfl ?_
        exact k_X7_groupOf_p28  _ _ _ h
      · replace h := h.2 hc
        refine j_iload_n 0 dX7_groupOf_20 rfl ?_
        refine j_bipush (v := 122) dX7_groupOf_21 (by decide) ?_
        refine j_icmp_gt (tgt := 28) dX7_groupOf_23 (by decide) (fun hc => ?_) (fun hc => ?_)
        · replace h := h.1 hc
          refine j_sub [0] rfl ?_
          exact k_X7_groupOf_p28  _ _ _ h
        · replace h := h.2 hc
          refine j_iconst (v := 1) dX7_groupOf_26 (by decide) ?_
          exact j_iret dX7_groupOf_27 rfl ⟨_, rfl, h⟩
    · replace h := h.2 hc
      refine j_iconst (v := 0) dX7_groupOf_12 (by decide) ?_
      exact j_iret dX7_groupOf_13 rfl ⟨_, rfl, h⟩
def w_X7_isOperator (a1 : Int32) (M : am_I) (N : am_N) (post : Int32 → am_I → am_N → Prop) : Prop :=
  ((a1 = 43 → post 1 M N) ∧ (¬ a1 = 43 → ((a1 = 45 → post 1 M N) ∧ (¬ a1 = 45 → ((a1 = 42 → post 1 M N) ∧ (¬ a1 = 42 → ((¬ a1 = 47 → post 0 M N) ∧ (a1 = 47 → post 1 M N))))))))
set_option maxRecDepth 10000 in
theorem k_X7_isOperator {d : Nat} {dm : List am_C}  {a1 : Int32} {M : am_I} {N : am_N} {post : Int32 → am_I → am_N → Prop} (h : w_X7_isOperator a1 M N post) : jg (d + 1) mX7_isOperator dm 0 [(0, .inl a1)] [] M N (am_pi post) := by
  refine j_iload_n 0 dX7_isOperator_0 rfl ?_
  refine j_bipush (v := 43) dX7_isOperator_1 (by decide) ?_
  refine j_icmp_eq (tgt := 24) dX7_isOperator_3 (by decide) (fun hc => ?_) (fun hc => ?_)
  · replace h := h.1 hc
    refine j_iconst (v := 1) dX7_isOperator_24 (by decide) ?_
    refine j_goto (tgt := 29) dX7_isOperator_25 (by decide) ?_
    exact j_zret dX7_isOperator_29 rfl (Or.inr rfl) ⟨_, rfl, h⟩
  · replace h := h.2 hc
    refine j_iload_n 0 dX7_isOperator_6 rfl ?_
    refine j_bipush (v := 45) dX7_isOperator_7 (by decide) ?_
    refine j_icmp_eq (tgt := 24) dX7_isOperator_9 (by decide) (fun hc => ?_) (fun hc => ?_)
    · replace h := h.1 hc
      refine j_iconst (v := 1) dX7_isOperator_24 (by decide) ?_
      refine j_goto (tgt := 29) dX7_isOperator_25 (by decide) ?_
      exact j_zret dX7_isOperator_29 rfl (Or.inr rfl) ⟨_, rfl, h⟩
    · replace h := h.2 hc
      refine j_iload_n 0 dX7_isOperator_12 rfl ?_
      refine j_bipush (v := 42) dX7_isOperator_13 (by decide) ?_
      refine j_icmp_eq (tgt := 24) dX7_isOperator_15 (by decide) (fun hc => ?_) (fun hc => ?_)
      · replace h := h.1 hc
        refine j_iconst (v := 1) dX7_isOperator_24 (by decide) ?_
        refine j_goto (tgt := 29) dX7_isOperator_25 (by decide) ?_
        exact j_zret dX7_isOperator_29 rfl (Or.inr rfl) ⟨_, rfl, h⟩
      · replace h := h.2 hc
        refine j_iload_n 0 dX7_isOperator_18 rfl ?_
        refine j_bipush (v := 47) dX7_isOperator_19 (by decide) ?_
        refine j_icmp_ne (tgt := 28) dX7_isOperator_21 (by decide) (fun hc => ?_) (fun hc => ?_)
        · replace h := h.1 hc
          refine j_iconst (v := 0) dX7_isOperator_28 (by decide) ?_
          exact j_zret dX7_isOperator_29 rfl (Or.inl rfl) ⟨_, rfl, h⟩
        · replace h := h.2 hc
          refine j_iconst (v := 1) dX7_isOperator_24 (by decide) ?_
          refine j_goto (tgt := 29) dX7_isOperator_25 (by decide) ?_
          exact j_zret dX7_isOperator_29 rfl (Or.inr rfl) ⟨_, rfl, h⟩
def w_X7_here (M : am_I) (N : am_N) (post : Int32 → am_I → am_N → Prop) : Prop :=
  (((M (0, 0, 7) 6) < 0 → post 0 M N) ∧ (¬ (M (0, 0, 7) 6) < 0 → (((M (0, 0, 7) 5) ≤ (M (0, 0, 7) 6) → post 0 M N) ∧ (¬ (M (0, 0, 7) 5) ≤ (M (0, 0, 7) 6) → vp_in (M (0, 0, 7) 6) 501 ∧ post (M (0, 0, 9) (M (0, 0, 7) 6).toNatClampNeg) M N))))
set_option maxRecDepth 10000 in
theorem k_X7_here {d : Nat} {dm : List am_C} (h0 : am_d0 dm) {M : am_I} {N : am_N} {post : Int32 → am_I → am_N → Prop} (h : w_X7_here M N post) : jg (d + 1) mX7_here dm 0 [(0, .inr (.inr (0, 0, 7)))] [] M N (am_pi post) := by
  refine j_aload_n 0 dX7_here_0 rfl ?_
  refine j_getI dX7_here_1 fsRX7_38 (h0 7 (by decide)) rfl ?_
  refine j_if_lt (tgt := 30) dX7_here_4 (by decide) (fun hc => ?_) (fun hc => ?_)
  · replace h := h.1 hc
    refine j_iconst (v := 0) dX7_here_30 (by decide) ?_
    exact j_iret dX7_here_31 rfl ⟨_, rfl, h⟩
  · replace h := h.2 hc
    refine j_aload_n 0 dX7_here_7 rfl ?_
    refine j_getI dX7_here_8 fsRX7_38 (h0 7 (by decide)) rfl ?_
    refine j_aload_n 0 dX7_here_11 rfl ?_
    refine j_getI dX7_here_12 fsRX7_58 (h0 7 (by decide)) rfl ?_
    refine j_icmp_ge (tgt := 30) dX7_here_15 (by decide) (fun hc => ?_) (fun hc => ?_)
    · replace h := h.1 hc
      refine j_iconst (v := 0) dX7_here_30 (by decide) ?_
      exact j_iret dX7_here_31 rfl ⟨_, rfl, h⟩
    · replace h := h.2 hc
      refine j_aload_n 0 dX7_here_18 rfl ?_
      refine j_getR (b := (0, 0, 9)) dX7_here_19 fsRX7_15 (h0 7 (by decide)) rfl rfl ?_
      refine j_aload_n 0 dX7_here_22 rfl ?_
      refine j_getI dX7_here_23 fsRX7_38 (h0 7 (by decide)) rfl ?_
      obtain ⟨hq, h⟩ := h
      refine j_iald dX7_here_26 (h0 9 (by decide)) rfl hq ?_
      refine j_goto (tgt := 31) dX7_here_27 (by decide) ?_
      exact j_iret dX7_here_31 rfl ⟨_, rfl, h⟩
def w_X7_placeHere (M : am_I) (N : am_N) (post : Int32 → am_I → am_N → Prop) : Prop :=
  (((M (0, 0, 7) 6) < 0 → post 0 M N) ∧ (¬ (M (0, 0, 7) 6) < 0 → (((M (0, 0, 7) 5) ≤ (M (0, 0, 7) 6) → post 0 M N) ∧ (¬ (M (0, 0, 7) 5) ≤ (M (0, 0, 7) 6) → vp_in (M (0, 0, 7) 6) 501 ∧ post (M (0, 0, 10) (M (0, 0, 7) 6).toNatClampNeg) M N))))
set_option maxRecDepth 10000 in
theorem k_X7_placeHere {d : Nat} {dm : List am_C} (h0 : am_d0 dm) {M : am_I} {N : am_N} {post : Int32 → am_I → am_N → Prop} (h : w_X7_placeHere M N post) : jg (d + 1) mX7_placeHere dm 0 [(0, .inr (.inr (0, 0, 7)))] [] M N (am_pi post) := by
  refine j_aload_n 0 dX7_placeHere_0 rfl ?_
  refine j_getI dX7_placeHere_1 fsRX7_38 (h0 7 (by decide)) rfl ?_
  refine j_if_lt (tgt := 30) dX7_placeHere_4 (by decide) (fun hc => ?_) (fun hc => ?_)
  · replace h := h.1 hc
    refine j_iconst (v := 0) dX7_placeHere_30 (by decide) ?_
    exact j_iret dX7_placeHere_31 rfl ⟨_, rfl, h⟩
  · replace h := h.2 hc
    refine j_aload_n 0 dX7_placeHere_7 rfl ?_
    refine j_getI dX7_placeHere_8 fsRX7_38 (h0 7 (by decide)) rfl ?_
    refine j_aload_n 0 dX7_placeHere_11 rfl ?_
    refine j_getI dX7_placeHere_12 fsRX7_58 (h0 7 (by decide)) rfl ?_
    refine j_icmp_ge (tgt := 30) dX7_placeHere_15 (by decide) (fun hc => ?_) (fun hc => ?_)
    · replace h := h.1 hc
      refine j_iconst (v := 0) dX7_placeHere_30 (by decide) ?_
      exact j_iret dX7_placeHere_31 rfl ⟨_, rfl, h⟩
    · replace h := h.2 hc
      refine j_aload_n 0 dX7_placeHere_18 rfl ?_
      refine j_getR (b := (0, 0, 10)) dX7_placeHere_19 fsRX7_18 (h0 7 (by decide)) rfl rfl ?_
      refine j_aload_n 0 dX7_placeHere_22 rfl ?_
      refine j_getI dX7_placeHere_23 fsRX7_38 (h0 7 (by decide)) rfl ?_
      obtain ⟨hq, h⟩ := h
      refine j_iald dX7_placeHere_26 (h0 10 (by decide)) rfl hq ?_
      refine j_goto (tgt := 31) dX7_placeHere_27 (by decide) ?_
      exact j_iret dX7_placeHere_31 rfl ⟨_, rfl, h⟩
def w_X7_accept_p36 (post : Int32 → am_I → am_N → Prop) (s0 : Int32) (M : am_I) (N : am_N) : Prop :=
  ((s0 = 0 → (s0 = 0 ∨ s0 = 1) ∧ post s0 M N) ∧ (¬ s0 = 0 → (s0 = 0 ∨ s0 = 1) ∧ post s0 (am_u M (0, 0, 7) 6 ((M (0, 0, 7) 6) + 1)) N))
set_option maxRecDepth 10000 in
theorem k_X7_accept_p36 {d : Nat} {dm : List am_C} (h0 : am_d0 dm) {post : Int32 → am_I → am_N → Prop} (s0 : Int32) (M : am_I) (N : am_N) (h : w_X7_accept_p36 post s0 M N) : jg (d + 1) mX7_accept dm 36 [(0, .inr (.inr (0, 0, 7)))] [.inl s0] M N (am_pi post) := by
  refine j_istore_n dX7_accept_36 (by decide) rfl ?_
  refine j_iload_n 0 dX7_accept_37 rfl ?_
  refine j_if_eq (tgt := 51) dX7_accept_38 (by decide) (fun hc => ?_) (fun hc => ?_)
  · replace h := h.1 hc
    refine j_iload_n 0 dX7_accept_51 rfl ?_
    exact j_zret dX7_accept_52 rfl h.1 ⟨_, rfl, h.2⟩
  · replace h := h.2 hc
    refine j_aload_n 1 dX7_accept_41 rfl ?_
    refine j_dup dX7_accept_42 rfl ?_
    refine j_getI dX7_accept_43 fsRX7_38 (h0 7 (by decide)) rfl ?_
    refine j_iconst (v := 1) dX7_accept_46 (by decide) ?_
    refine j_iadd dX7_accept_47 ?_
    refine j_putI dX7_accept_48 fwRX7_38 (h0 7 (by decide)) rfl ?_
    refine j_iload_n 0 dX7_accept_51 rfl ?_
    exact j_zret dX7_accept_52 rfl h.1 ⟨_, rfl, h.2⟩
def w_X7_accept (a1 : Int32) (M : am_I) (N : am_N) (post : Int32 → am_I → am_N → Prop) : Prop :=
  (((M (0, 0, 7) 6) < 0 → w_X7_accept_p36 post 0 M N) ∧ (¬ (M (0, 0, 7) 6) < 0 → (((M (0, 0, 7) 5) ≤ (M (0, 0, 7) 6) → w_X7_accept_p36 post 0 M N) ∧ (¬ (M (0, 0, 7) 5) ≤ (M (0, 0, 7) 6) → vp_in (M (0, 0, 7) 6) 501 ∧ ((¬ (M (0, 0, 9) (M (0, 0, 7) 6).toNatClampNeg) = a1 → w_X7_accept_p36 post 0 M N) ∧ ((M (0, 0, 9) (M (0, 0, 7) 6).toNatClampNeg) = a1 → w_X7_accept_p36 post 1 M N))))))
set_option maxRecDepth 10000 in
theorem k_X7_accept {d : Nat} {dm : List am_C} (h0 : am_d0 dm) {a1 : Int32} {M : am_I} {N : am_N} {post : Int32 → am_I → am_N → Prop} (h : w_X7_accept a1 M N post) : jg (d + 1) mX7_accept dm 0 [(0, .inr (.inr (0, 0, 7))), (1, .inl a1)] [] M N (am_pi post) := by
  refine j_aload_n 0 dX7_accept_0 rfl ?_
  refine j_getI dX7_accept_1 fsRX7_38 (h0 7 (by decide)) rfl ?_
  refine j_if_lt (tgt := 35) dX7_accept_4 (by decide) (fun hc => ?_) (fun hc => ?_)
  · replace h := h.1 hc
    refine j_iconst (v := 0) dX7_accept_35 (by decide) ?_
    refine j_sub [0] rfl ?_
    exact k_X7_accept_p36 h0 _ _ _ h
  · replace h := h.2 hc
    refine j_aload_n 0 dX7_accept_7 rfl ?_
    refine j_getI dX7_accept_8 fsRX7_38 (h0 7 (by decide)) rfl ?_
    refine j_aload_n 0 dX7_accept_11 rfl ?_
    refine j_getI dX7_accept_12 fsRX7_58 (h0 7 (by decide)) rfl ?_
    refine j_icmp_ge (tgt := 35) dX7_accept_15 (by decide) (fun hc => ?_) (fun hc => ?_)
    · replace h := h.1 hc
      refine j_iconst (v := 0) dX7_accept_35 (by decide) ?_
      refine j_sub [0] rfl ?_
      exact k_X7_accept_p36 h0 _ _ _ h
    · replace h := h.2 hc
      refine j_aload_n 0 dX7_accept_18 rfl ?_
      refine j_getR (b := (0, 0, 9)) dX7_accept_19 fsRX7_15 (h0 7 (by decide)) rfl rfl ?_
      refine j_aload_n 0 dX7_accept_22 rfl ?_
      refine j_getI dX7_accept_23 fsRX7_38 (h0 7 (by decide)) rfl ?_
      obtain ⟨hq, h⟩ := h
      refine j_iald dX7_accept_26 (h0 9 (by decide)) rfl hq ?_
      refine j_iload_n 1 dX7_accept_27 rfl ?_
      refine j_icmp_ne (tgt := 35) dX7_accept_28 (by decide) (fun hc => ?_) (fun hc => ?_)
      · replace h := h.1 hc
        refine j_iconst (v := 0) dX7_accept_35 (by decide) ?_
        refine j_sub [0] rfl ?_
        exact k_X7_accept_p36 h0 _ _ _ h
      · replace h := h.2 hc
        refine j_iconst (v := 1) dX7_accept_31 (by decide) ?_
        refine j_goto (tgt := 36) dX7_accept_32 (by decide) ?_
        refine j_sub [0] rfl ?_
        exact k_X7_accept_p36 h0 _ _ _ h
def w_X7_emit (a1 : Int32) (M : am_I) (N : am_N) (post : am_I → am_N → Prop) : Prop :=
  ((548 ≤ (M (0, 0, 7) 7) → post M N) ∧ (¬ 548 ≤ (M (0, 0, 7) 7) → vp_in (M (0, 0, 7) 7) 548 ∧ post (am_u (am_u M (0, 0, 11) (M (0, 0, 7) 7).toNatClampNeg a1) (0, 0, 7) 7 (((am_u M (0, 0, 11) (M (0, 0, 7) 7).toNatClampNeg a1) (0, 0, 7) 7) + 1)) N))
set_option maxRecDepth 10000 in
theorem k_X7_emit {d : Nat} {dm : List am_C} (h0 : am_d0 dm) {a1 : Int32} {M : am_I} {N : am_N} {post : am_I → am_N → Prop} (h : w_X7_emit a1 M N post) : jg (d + 1) mX7_emit dm 0 [(0, .inr (.inr (0, 0, 7))), (1, .inl a1)] [] M N (am_pv post) := by
  refine j_aload_n 0 dX7_emit_0 rfl ?_
  refine j_getI dX7_emit_1 fsRX7_41 (h0 7 (by decide)) rfl ?_
  refine j_aload_n 0 dX7_emit_4 rfl ?_
  refine j_getR (b := (0, 0, 11)) dX7_emit_5 fsRX7_21 (h0 7 (by decide)) rfl rfl ?_
  refine j_aleni (v := 548) dX7_emit_8 (h0 11 (by decide)) rfl (by decide) ?_
  refine j_icmp_ge (tgt := 32) dX7_emit_9 (by decide) (fun hc => ?_) (fun hc => ?_)
  · replace h := h.1 hc
    exact j_vret dX7_emit_32 rfl ⟨rfl, h⟩
  · replace h := h.2 hc
    refine j_aload_n 0 dX7_emit_12 rfl ?_
    refine j_getR (b := (0, 0, 11)) dX7_emit_13 fsRX7_21 (h0 7 (by decide)) rfl rfl ?_
    refine j_aload_n 0 dX7_emit_16 rfl ?_
    refine j_getI dX7_emit_17 fsRX7_41 (h0 7 (by decide)) rfl ?_
    refine j_iload_n 1 dX7_emit_20 rfl ?_
    obtain ⟨hq, h⟩ := h
    refine j_iast dX7_emit_21 (h0 11 (by decide)) rfl hq ?_
    refine j_aload_n 0 dX7_emit_22 rfl ?_
    refine j_dup dX7_emit_23 rfl ?_
    refine j_getI dX7_emit_24 fsRX7_41 (h0 7 (by decide)) rfl ?_
    refine j_iconst (v := 1) dX7_emit_27 (by decide) ?_
    refine j_iadd dX7_emit_28 ?_
    refine j_putI dX7_emit_29 fwRX7_41 (h0 7 (by decide)) rfl ?_
    exact j_vret dX7_emit_32 rfl ⟨rfl, h⟩
def w_X7_readAnyO_p110 (rc : Nat → Int32 → am_I → am_N → (Int32 → am_I → am_N → Prop) → Prop) (post : Int32 → am_I → am_N → Prop) (l2 : Int32) (l3 : Int32) (M : am_I) (N : am_N) : Prop :=
  ((l2 = 0 → (l3 = 0 ∨ l3 = 1) ∧ post l3 M N) ∧ (¬ l2 = 0 → w_X7_emit (-6) M N (fun zM1 zN2 => (l3 = 0 ∨ l3 = 1) ∧ post l3 zM1 zN2)))
set_option maxRecDepth 10000 in
theorem k_X7_readAnyO_p110 {d e : Nat} {dm : List am_C} {rc : Nat → Int32 → am_I → am_N → (Int32 → am_I → am_N → Prop) → Prop} (h0 : am_d0 dm) (hdd : e < d + 2) (hrc0 : ∀ (a1 : Int32) (M : am_I) (N : am_N) (post : Int32 → am_I → am_N → Prop), rc 0 a1 M N post → jg e mX7_readAny dm 0 [(0, .inr (.inr (0, 0, 7))), (1, .inl a1)] [] M N (am_pi post)) (hrc1 : ∀ (a1 : Int32) (M : am_I) (N : am_N) (post : Int32 → am_I → am_N → Prop), rc 1 a1 M N post → jg e mX7_readOne dm 0 [(0, .inr (.inr (0, 0, 7))), (1, .inl a1)] [] M N (am_pi post)) (hrc2 : ∀ (a1 : Int32) (M : am_I) (N : am_N) (post : Int32 → am_I → am_N → Prop), rc 2 a1 M N post → jg e mX7_readSum dm 0 [(0, .inr (.inr (0, 0, 7))), (1, .inl a1)] [] M N (am_pi post)) (hrc3 : ∀ (a1 : Int32) (M : am_I) (N : am_N) (post : Int32 → am_I → am_N → Prop), rc 3 a1 M N post → jg e mX7_readAtom dm 0 [(0, .inr (.inr (0, 0, 7))), (1, .inl a1)] [] M N (am_pi post)) {post : Int32 → am_I → am_N → Prop} (l2 : Int32) (l3 : Int32) (M : am_I) (N : am_N) (h : w_X7_readAnyO_p110 rc post l2 l3 M N) : jg (d + 2) mX7_readAny dm 110 [(0, .inr (.inr (0, 0, 7))), (2, .inl l2), (3, .inl l3)] [] M N (am_pi post) := by
  refine j_iload_n 1 dX7_readAny_110 rfl ?_
  refine j_if_eq (tgt := 120) dX7_readAny_111 (by decide) (fun hc => ?_) (fun hc => ?_)
  · replace h := h.1 hc
    refine j_iload_n 2 dX7_readAny_120 rfl ?_
    exact j_zret dX7_readAny_121 rfl h.1 ⟨_, rfl, h.2⟩
  · replace h := h.2 hc
    refine j_aload_n 0 dX7_readAny_114 rfl ?_
    refine j_bipush (v := (-6)) dX7_readAny_115 (by decide) ?_
    refine j_invV (As := [.inl (-6)]) dX7_readAny_117 msRX7_99 mbX7_emit rfl rfl (Nat.le_of_ble_eq_true rfl) (Nat.le_of_ble_eq_true rfl) (by omega) (h0 7 (by decide)) rfl rfl (k_X7_emit (d := d + 0) h0 h) ?_
    rintro _ zM1 zN2 ⟨rfl, h⟩
    refine j_iload_n 2 dX7_readAny_120 rfl ?_
    exact j_zret dX7_readAny_121 rfl h.1 ⟨_, rfl, h.2⟩
def w_X7_readAnyO_p82 (rc : Nat → Int32 → am_I → am_N → (Int32 → am_I → am_N → Prop) → Prop) (post : Int32 → am_I → am_N → Prop) (zk11 : Int32 → Int32 → Int32 → Int32 → am_I → am_N → Prop) (l1 : Int32) (l2 : Int32) (l4 : Int32) (l5 : Int32) (M : am_I) (N : am_N) : Prop :=
  rc 1 l1 M N (fun zr1 zM2 zN3 => ((l5 = 0 → zk11 l1 1 zr1 (l4 + 1) zM2 zN3) ∧ (¬ l5 = 0 → w_X7_emit (-7) zM2 zN3 (fun zM4 zN5 => zk11 l1 l2 zr1 (l4 + 1) zM4 zN5))))
set_option maxRecDepth 10000 in
theorem k_X7_readAnyO_p82 {d e : Nat} {dm : List am_C} {rc : Nat → Int32 → am_I → am_N → (Int32 → am_I → am_N → Prop) → Prop} (h0 : am_d0 dm) (hdd : e < d + 2) (hrc0 : ∀ (a1 : Int32) (M : am_I) (N : am_N) (post : Int32 → am_I → am_N → Prop), rc 0 a1 M N post → jg e mX7_readAny dm 0 [(0, .inr (.inr (0, 0, 7))), (1, .inl a1)] [] M N (am_pi post)) (hrc1 : ∀ (a1 : Int32) (M : am_I) (N : am_N) (post : Int32 → am_I → am_N → Prop), rc 1 a1 M N post → jg e mX7_readOne dm 0 [(0, .inr (.inr (0, 0, 7))), (1, .inl a1)] [] M N (am_pi post)) (hrc2 : ∀ (a1 : Int32) (M : am_I) (N : am_N) (post : Int32 → am_I → am_N → Prop), rc 2 a1 M N post → jg e mX7_readSum dm 0 [(0, .inr (.inr (0, 0, 7))), (1, .inl a1)] [] M N (am_pi post)) (hrc3 : ∀ (a1 : Int32) (M : am_I) (N : am_N) (post : Int32 → am_I → am_N → Prop), rc 3 a1 M N post → jg e mX7_readAtom dm 0 [(0, .inr (.inr (0, 0, 7))), (1, .inl a1)] [] M N (am_pi post)) {post : Int32 → am_I → am_N → Prop} {zk11 : Int32 → Int32 → Int32 → Int32 → am_I → am_N → Prop} (zhk11 : ∀ (l1 : Int32) (l2 : Int32) (l3 : Int32) (l4 : Int32) (M : am_I) (N : am_N), zk11 l1 l2 l3 l4 M N → jg (d + 2) mX7_readAny dm 11 [(0, .inr (.inr (0, 0, 7))), (1, .inl l1), (2, .inl l2), (3, .inl l3), (4, .inl l4)] [] M N (am_pi post)) (l1 : Int32) (l2 : Int32) (l4 : Int32) (l5 : Int32) (M : am_I) (N : am_N) (h : w_X7_readAnyO_p82 rc post zk11 l1 l2 l4 l5 M N) : jg (d + 2) mX7_readAny dm 82 [(0, .inr (.inr (0, 0, 7))), (1, .inl l1), (2, .inl l2), (4, .inl l4), (5, .inl l5)] [] M N (am_pi post) := by
  refine j_aload_n 0 dX7_readAny_82 rfl ?_
  refine j_iload_n 1 dX7_readAny_83 rfl ?_
  refine j_invV (As := [.inl l1]) dX7_readAny_84 msRX7_112 mbX7_readOne rfl rfl (Nat.le_of_ble_eq_true rfl) (Nat.le_of_ble_eq_true rfl) (by omega) (h0 7 (by decide)) rfl rfl (hrc1 _ _ _ _ h) ?_
  rintro _ zM2 zN3 ⟨zr1, rfl, h⟩
  refine j_istore_n dX7_readAny_87 (by decide) rfl ?_
  refine j_iload 5 dX7_readAny_88 rfl ?_
  refine j_if_eq (tgt := 102) dX7_readAny_90 (by decide) (fun hc => ?_) (fun hc => ?_)
  · replace h := h.1 hc
    refine j_iconst (v := 1) dX7_readAny_102 (by decide) ?_
    refine j_istore_n dX7_readAny_103 (by decide) rfl ?_
    refine j_iinc 4 dX7_readAny_104 rfl rfl (by decide) rfl ?_
    refine j_goto (tgt := 11) dX7_readAny_107 (by decide) ?_
    refine j_sub [3, 4, 1, 2, 0] rfl ?_
    exact zhk11 _ _ _ _ _ _ h
  · replace h := h.2 hc
    refine j_aload_n 1 dX7_readAny_93 rfl ?_
    refine j_bipush (v := (-7)) dX7_readAny_94 (by decide) ?_
    refine j_invV (As := [.inl (-7)]) dX7_readAny_96 msRX7_99 mbX7_emit rfl rfl (Nat.le_of_ble_eq_true rfl) (Nat.le_of_ble_eq_true rfl) (by omega) (h0 7 (by decide)) rfl rfl (k_X7_emit (d := d + 0) h0 h) ?_
    rintro _ zM4 zN5 ⟨rfl, h⟩
    refine j_goto (tgt := 104) dX7_readAny_99 (by decide) ?_
    refine j_iinc 4 dX7_readAny_104 rfl rfl (by decide) rfl ?_
    refine j_goto (tgt := 11) dX7_readAny_107 (by decide) ?_
    refine j_sub [2, 3, 4, 1, 0] rfl ?_
    exact zhk11 _ _ _ _ _ _ h
def w_X7_readAnyO_p55 (rc : Nat → Int32 → am_I → am_N → (Int32 → am_I → am_N → Prop) → Prop) (post : Int32 → am_I → am_N → Prop) (zk11 : Int32 → Int32 → Int32 → Int32 → am_I → am_N → Prop) (l1 : Int32) (l2 : Int32) (l4 : Int32) (s0 : Int32) (M : am_I) (N : am_N) : Prop :=
  ((¬ s0 = 0 → w_X7_readAnyO_p82 rc post zk11 l1 l2 l4 s0 (am_u M (0, 0, 7) 6 ((M (0, 0, 7) 6) + 1)) N) ∧ (s0 = 0 → ((l2 = 0 → w_X7_readAnyO_p82 rc post zk11 l1 l2 l4 s0 (am_u M (0, 0, 7) 6 ((M (0, 0, 7) 6) + 1)) N) ∧ (¬ l2 = 0 → w_X7_emit (-6) (am_u M (0, 0, 7) 6 ((M (0, 0, 7) 6) + 1)) N (fun zM1 zN2 => w_X7_readAnyO_p82 rc post zk11 l1 l2 l4 s0 zM1 zN2)))))
set_option maxRecDepth 10000 in
theorem k_X7_readAnyO_p55 {d e : Nat} {dm : List am_C} {rc : Nat → Int32 → am_I → am_N → (Int32 → am_I → am_N → Prop) → Prop} (h0 : am_d0 dm) (hdd : e < d + 2) (hrc0 : ∀ (a1 : Int32) (M : am_I) (N : am_N) (post : Int32 → am_I → am_N → Prop), rc 0 a1 M N post → jg e mX7_readAny dm 0 [(0, .inr (.inr (0, 0, 7))), (1, .inl a1)] [] M N (am_pi post)) (hrc1 : ∀ (a1 : Int32) (M : am_I) (N : am_N) (post : Int32 → am_I → am_N → Prop), rc 1 a1 M N post → jg e mX7_readOne dm 0 [(0, .inr (.inr (0, 0, 7))), (1, .inl a1)] [] M N (am_pi post)) (hrc2 : ∀ (a1 : Int32) (M : am_I) (N : am_N) (post : Int32 → am_I → am_N → Prop), rc 2 a1 M N post → jg e mX7_readSum dm 0 [(0, .inr (.inr (0, 0, 7))), (1, .inl a1)] [] M N (am_pi post)) (hrc3 : ∀ (a1 : Int32) (M : am_I) (N : am_N) (post : Int32 → am_I → am_N → Prop), rc 3 a1 M N post → jg e mX7_readAtom dm 0 [(0, .inr (.inr (0, 0, 7))), (1, .inl a1)] [] M N (am_pi post)) {post : Int32 → am_I → am_N → Prop} {zk11 : Int32 → Int32 → Int32 → Int32 → am_I → am_N → Prop} (zhk11 : ∀ (l1 : Int32) (l2 : Int32) (l3 : Int32) (l4 : Int32) (M : am_I) (N : am_N), zk11 l1 l2 l3 l4 M N → jg (d + 2) mX7_readAny dm 11 [(0, .inr (.inr (0, 0, 7))), (1, .inl l1), (2, .inl l2), (3, .inl l3), (4, .inl l4)] [] M N (am_pi post)) (l1 : Int32) (l2 : Int32) (l4 : Int32) (s0 : Int32) (M : am_I) (N : am_N) (h : w_X7_readAnyO_p55 rc post zk11 l1 l2 l4 s0 M N) : jg (d + 2) mX7_readAny dm 55 [(0, .inr (.inr (0, 0, 7))), (1, .inl l1), (2, .inl l2), (4, .inl l4)] [.inl s0] M N (am_pi post) := by
  refine j_istore dX7_readAny_55 (by decide) rfl ?_
  refine j_aload_n 1 dX7_readAny_57 rfl ?_
  refine j_dup dX7_readAny_58 rfl ?_
  refine j_getI dX7_readAny_59 fsRX7_38 (h0 7 (by decide)) rfl ?_
  refine j_iconst (v := 1) dX7_readAny_62 (by decide) ?_
  refine j_iadd dX7_readAny_63 ?_
  refine j_putI dX7_readAny_64 fwRX7_38 (h0 7 (by decide)) rfl ?_
  refine j_iload 0 dX7_readAny_67 rfl ?_
  refine j_if_ne (tgt := 82) dX7_readAny_69 (by decide) (fun hc => ?_) (fun hc => ?_)
  · replace h := h.1 hc
    refine j_sub [1, 2, 3, 4, 0] rfl ?_
    exact k_X7_readAnyO_p82 h0 hdd hrc0 hrc1 hrc2 hrc3 zhk11 _ _ _ _ _ _ h
  · replace h := h.2 hc
    refine j_iload_n 3 dX7_readAny_72 rfl ?_
    refine j_if_eq (tgt := 82) dX7_readAny_73 (by decide) (fun hc => ?_) (fun hc => ?_)
    · replace h := h.1 hc
      refine j_sub [1, 2, 3, 4, 0] rfl ?_
      exact k_X7_readAnyO_p82 h0 hdd hrc0 hrc1 hrc2 hrc3 zhk11 _ _ _ _ _ _ h
    · replace h := h.2 hc
      refine j_aload_n 1 dX7_readAny_76 rfl ?_
      refine j_bipush (v := (-6)) dX7_readAny_77 (by decide) ?_
      refine j_invV (As := [.inl (-6)]) dX7_readAny_79 msRX7_99 mbX7_emit rfl rfl (Nat.le_of_ble_eq_true rfl) (Nat.le_of_ble_eq_true rfl) (by omega) (h0 7 (by decide)) rfl rfl (k_X7_emit (d := d + 0) h0 h) ?_
      rintro _ zM1 zN2 ⟨rfl, h⟩
      refine j_sub [1, 2, 3, 4, 0] rfl ?_
      exact k_X7_readAnyO_p82 h0 hdd hrc0 hrc1 hrc2 hrc3 zhk11 _ _ _ _ _ _ h
def w_X7_readAnyO_p41 (rc : Nat → Int32 → am_I → am_N → (Int32 → am_I → am_N → Prop) → Prop) (post : Int32 → am_I → am_N → Prop) (zk11 : Int32 → Int32 → Int32 → Int32 → am_I → am_N → Prop) (l1 : Int32) (l2 : Int32) (l4 : Int32) (M : am_I) (N : am_N) : Prop :=
  w_X7_here M N (fun zr1 zM2 zN3 => ((¬ zr1 = 7 → w_X7_readAnyO_p55 rc post zk11 l1 l2 l4 0 zM2 zN3) ∧ (zr1 = 7 → w_X7_readAnyO_p55 rc post zk11 l1 l2 l4 1 zM2 zN3)))
set_option maxRecDepth 10000 in
theorem k_X7_readAnyO_p41 {d e : Nat} {dm : List am_C} {rc : Nat → Int32 → am_I → am_N → (Int32 → am_I → am_N → Prop) → Prop} (h0 : am_d0 dm) (hdd : e < d + 2) (hrc0 : ∀ (a1 : Int32) (M : am_I) (N : am_N) (post : Int32 → am_I → am_N → Prop), rc 0 a1 M N post → jg e mX7_readAny dm 0 [(0, .inr (.inr (0, 0, 7))), (1, .inl a1)] [] M N (am_pi post)) (hrc1 : ∀ (a1 : Int32) (M : am_I) (N : am_N) (post : Int32 → am_I → am_N → Prop), rc 1 a1 M N post → jg e mX7_readOne dm 0 [(0, .inr (.inr (0, 0, 7))), (1, .inl a1)] [] M N (am_pi post)) (hrc2 : ∀ (a1 : Int32) (M : am_I) (N : am_N) (post : Int32 → am_I → am_N → Prop), rc 2 a1 M N post → jg e mX7_readSum dm 0 [(0, .inr (.inr (0, 0, 7))), (1, .inl a1)] [] M N (am_pi post)) (hrc3 : ∀ (a1 : Int32) (M : am_I) (N : am_N) (post : Int32 → am_I → am_N → Prop), rc 3 a1 M N post → jg e mX7_readAtom dm 0 [(0, .inr (.inr (0, 0, 7))), (1, .inl a1)] [] M N (am_pi post)) {post : Int32 → am_I → am_N → Prop} {zk11 : Int32 → Int32 → Int32 → Int32 → am_I → am_N → Prop} (zhk11 : ∀ (l1 : Int32) (l2 : Int32) (l3 : Int32) (l4 : Int32) (M : am_I) (N : am_N), zk11 l1 l2 l3 l4 M N → jg (d + 2) mX7_readAny dm 11 [(0, .inr (.inr (0, 0, 7))), (1, .inl l1), (2, .inl l2), (3, .inl l3), (4, .inl l4)] [] M N (am_pi post)) (l1 : Int32) (l2 : Int32) (l4 : Int32) (M : am_I) (N : am_N) (h : w_X7_readAnyO_p41 rc post zk11 l1 l2 l4 M N) : jg (d + 2) mX7_readAny dm 41 [(0, .inr (.inr (0, 0, 7))), (1, .inl l1), (2, .inl l2), (4, .inl l4)] [] M N (am_pi post) := by
  refine j_aload_n 0 dX7_readAny_41 rfl ?_
  refine j_invV (As := []) dX7_readAny_42 msRX7_47 mbX7_here rfl rfl (Nat.le_of_ble_eq_true rfl) (Nat.le_of_ble_eq_true rfl) (by omega) (h0 7 (by decide)) rfl rfl (k_X7_here (d := d + 0) h0 h) ?_
  rintro _ zM2 zN3 ⟨zr1, rfl, h⟩
  refine j_bipush (v := 7) dX7_readAny_45 (by decide) ?_
  refine j_icmp_ne (tgt := 54) dX7_readAny_47 (by decide) (fun hc => ?_) (fun hc => ?_)
  · replace h := h.1 hc
    refine j_iconst (v := 0) dX7_readAny_54 (by decide) ?_
    refine j_sub [0, 1, 2, 3] rfl ?_
    exact k_X7_readAnyO_p55 h0 hdd hrc0 hrc1 hrc2 hrc3 zhk11 _ _ _ _ _ _ h
  · replace h := h.2 hc
    refine j_iconst (v := 1) dX7_readAny_50 (by decide) ?_
    refine j_goto (tgt := 55) dX7_readAny_51 (by decide) ?_
    refine j_sub [0, 1, 2, 3] rfl ?_
    exact k_X7_readAnyO_p55 h0 hdd hrc0 hrc1 hrc2 hrc3 zhk11 _ _ _ _ _ _ h
def w_X7_readAnyO_p11_b (rc : Nat → Int32 → am_I → am_N → (Int32 → am_I → am_N → Prop) → Prop) (post : Int32 → am_I → am_N → Prop) (zk11 : Int32 → Int32 → Int32 → Int32 → am_I → am_N → Prop) (l1 : Int32) (l2 : Int32) (l3 : Int32) (l4 : Int32) (M : am_I) (N : am_N) : Prop :=
  ((500 ≤ l4 → w_X7_readAnyO_p110 rc post l2 l3 M N) ∧ (¬ 500 ≤ l4 → ((l3 = 0 → w_X7_readAnyO_p110 rc post l2 l3 M N) ∧ (¬ l3 = 0 → w_X7_here M N (fun zr1 zM2 zN3 => ((zr1 = 7 → w_X7_readAnyO_p41 rc post zk11 l1 l2 l4 zM2 zN3) ∧ (¬ zr1 = 7 → w_X7_here zM2 zN3 (fun zr4 zM5 zN6 => ((¬ zr4 = 6 → w_X7_readAnyO_p110 rc post l2 l3 zM5 zN6) ∧ (zr4 = 6 → w_X7_readAnyO_p41 rc post zk11 l1 l2 l4 zM5 zN6))))))))))
noncomputable def w_X7_readAnyO_p11 (rc : Nat → Int32 → am_I → am_N → (Int32 → am_I → am_N → Prop) → Prop) (post : Int32 → am_I → am_N → Prop) (n : Nat) : Int32 → Int32 → Int32 → Int32 → am_I → am_N → Prop :=
  Nat.rec (motive := fun _ => Int32 → Int32 → Int32 → Int32 → am_I → am_N → Prop) (fun _ _ _ _ _ _ => False) (fun _ zk => w_X7_readAnyO_p11_b rc post zk) n
theorem w_X7_readAnyO_p11_s (rc : Nat → Int32 → am_I → am_N → (Int32 → am_I → am_N → Prop) → Prop) (post : Int32 → am_I → am_N → Prop) (n : Nat) (l1 : Int32) (l2 : Int32) (l3 : Int32) (l4 : Int32) (M : am_I) (N : am_N) : w_X7_readAnyO_p11 rc post (n + 1) l1 l2 l3 l4 M N = w_X7_readAnyO_p11_b rc post (w_X7_readAnyO_p11 rc post n) l1 l2 l3 l4 M N := rfl
set_option maxRecDepth 10000 in
theorem k_X7_readAnyO_p11 {d e : Nat} {dm : List am_C} {rc : Nat → Int32 → am_I → am_N → (Int32 → am_I → am_N → Prop) → Prop} (h0 : am_d0 dm) (hdd : e < d + 2) (hrc0 : ∀ (a1 : Int32) (M : am_I) (N : am_N) (post : Int32 → am_I → am_N → Prop), rc 0 a1 M N post → jg e mX7_readAny dm 0 [(0, .inr (.inr (0, 0, 7))), (1, .inl a1)] [] M N (am_pi post)) (hrc1 : ∀ (a1 : Int32) (M : am_I) (N : am_N) (post : Int32 → am_I → am_N → Prop), rc 1 a1 M N post → jg e mX7_readOne dm 0 [(0, .inr (.inr (0, 0, 7))), (1, .inl a1)] [] M N (am_pi post)) (hrc2 : ∀ (a1 : Int32) (M : am_I) (N : am_N) (post : Int32 → am_I → am_N → Prop), rc 2 a1 M N post → jg e mX7_readSum dm 0 [(0, .inr (.inr (0, 0, 7))), (1, .inl a1)] [] M N (am_pi post)) (hrc3 : ∀ (a1 : Int32) (M : am_I) (N : am_N) (post : Int32 → am_I → am_N → Prop), rc 3 a1 M N post → jg e mX7_readAtom dm 0 [(0, .inr (.inr (0, 0, 7))), (1, .inl a1)] [] M N (am_pi post)) {post : Int32 → am_I → am_N → Prop} : ∀ (n : Nat) (l1 : Int32) (l2 : Int32) (l3 : Int32) (l4 : Int32) (M : am_I) (N : am_N), w_X7_readAnyO_p11 rc post n l1 l2 l3 l4 M N → jg (d + 2) mX7_readAny dm 11 [(0, .inr (.inr (0, 0, 7))), (1, .inl l1), (2, .inl l2), (3, .inl l3), (4, .inl l4)] [] M N (am_pi post) := by
  intro n
  induction n with
  | zero => intro l1 l2 l3 l4 M N h; exact h.elim
  | succ n zih =>
    intro l1 l2 l3 l4 M N h
    replace h : w_X7_readAnyO_p11_b rc post (w_X7_readAnyO_p11 rc post n) l1 l2 l3 l4 M N := h
    refine j_iload 4 dX7_readAny_11 rfl ?_
    refine j_sipush (v := 500) dX7_readAny_13 (by decide) ?_
    refine j_icmp_ge (tgt := 110) dX7_readAny_16 (by decide) (fun hc => ?_) (fun hc => ?_)
    · replace h := h.1 hc
      refine j_sub [0, 2, 3] rfl ?_
      exact k_X7_readAnyO_p110 h0 hdd hrc0 hrc1 hrc2 hrc3 _ _ _ _ h
    · replace h := h.2 hc
      refine j_iload_n 3 dX7_readAny_19 rfl ?_
      refine j_if_eq (tgt := 110) dX7_readAny_20 (by decide) (fun hc => ?_) (fun hc => ?_)
      · replace h := h.1 hc
        refine j_sub [0, 2, 3] rfl ?_
        exact k_X7_readAnyO_p110 h0 hdd hrc0 hrc1 hrc2 hrc3 _ _ _ _ h
      · replace h := h.2 hc
        refine j_aload_n 0 dX7_readAny_23 rfl ?_
        refine j_invV (As := []) dX7_readAny_24 msRX7_47 mbX7_here rfl rfl (Nat.le_of_ble_eq_true rfl) (Nat.le_of_ble_eq_true rfl) (by omega) (h0 7 (by decide)) rfl rfl (k_X7_here (d := d + 0) h0 h) ?_
        rintro _ zM2 zN3 ⟨zr1, rfl, h⟩
        refine j_bipush (v := 7) dX7_readAny_27 (by decide) ?_
        refine j_icmp_eq (tgt := 41) dX7_readAny_29 (by decide) (fun hc => ?_) (fun hc => ?_)
        · replace h := h.1 hc
          refine j_sub [0, 1, 2, 4] rfl ?_
          exact k_X7_readAnyO_p41 h0 hdd hrc0 hrc1 hrc2 hrc3 zih _ _ _ _ _ h
        · replace h := h.2 hc
          refine j_aload_n 0 dX7_readAny_32 rfl ?_
          refine j_invV (As := []) dX7_readAny_33 msRX7_47 mbX7_here rfl rfl (Nat.le_of_ble_eq_true rfl) (Nat.le_of_ble_eq_true rfl) (by omega) (h0 7 (by decide)) rfl rfl (k_X7_here (d := d + 0) h0 h) ?_
          rintro _ zM5 zN6 ⟨zr4, rfl, h⟩
          refine j_bipush (v := 6) dX7_readAny_36 (by decide) ?_
          refine j_icmp_ne (tgt := 110) dX7_readAny_38 (by decide) (fun hc => ?_) (fun hc => ?_)
          · replace h := h.1 hc
            refine j_sub [0, 2, 3] rfl ?_
            exact k_X7_readAnyO_p110 h0 hdd hrc0 hrc1 hrc2 hrc3 _ _ _ _ h
          · replace h := h.2 hc
            refine j_sub [0, 1, 2, 4] rfl ?_
            exact k_X7_readAnyO_p41 h0 hdd hrc0 hrc1 hrc2 hrc3 zih _ _ _ _ _ h
def w_X7_readAnyO (rc : Nat → Int32 → am_I → am_N → (Int32 → am_I → am_N → Prop) → Prop) (a1 : Int32) (M : am_I) (N : am_N) (post : Int32 → am_I → am_N → Prop) : Prop :=
  rc 1 a1 M N (fun zr1 zM2 zN3 => ∃ n, w_X7_readAnyO_p11 rc post n a1 0 zr1 0 zM2 zN3)
set_option maxRecDepth 10000 in
theorem k_X7_readAnyO {d e : Nat} {dm : List am_C} {rc : Nat → Int32 → am_I → am_N → (Int32 → am_I → am_N → Prop) → Prop} (h0 : am_d0 dm) (hdd : e < d + 2) (hrc0 : ∀ (a1 : Int32) (M : am_I) (N : am_N) (post : Int32 → am_I → am_N → Prop), rc 0 a1 M N post → jg e mX7_readAny dm 0 [(0, .inr (.inr (0, 0, 7))), (1, .inl a1)] [] M N (am_pi post)) (hrc1 : ∀ (a1 : Int32) (M : am_I) (N : am_N) (post : Int32 → am_I → am_N → Prop), rc 1 a1 M N post → jg e mX7_readOne dm 0 [(0, .inr (.inr (0, 0, 7))), (1, .inl a1)] [] M N (am_pi post)) (hrc2 : ∀ (a1 : Int32) (M : am_I) (N : am_N) (post : Int32 → am_I → am_N → Prop), rc 2 a1 M N post → jg e mX7_readSum dm 0 [(0, .inr (.inr (0, 0, 7))), (1, .inl a1)] [] M N (am_pi post)) (hrc3 : ∀ (a1 : Int32) (M : am_I) (N : am_N) (post : Int32 → am_I → am_N → Prop), rc 3 a1 M N post → jg e mX7_readAtom dm 0 [(0, .inr (.inr (0, 0, 7))), (1, .inl a1)] [] M N (am_pi post)) {a1 : Int32} {M : am_I} {N : am_N} {post : Int32 → am_I → am_N → Prop} (h : w_X7_readAnyO rc a1 M N post) : jg (d + 2) mX7_readAny dm 0 [(0, .inr (.inr (0, 0, 7))), (1, .inl a1)] [] M N (am_pi post) := by
  refine j_iconst (v := 0) dX7_readAny_0 (by decide) ?_
  refine j_istore_n dX7_readAny_1 (by decide) rfl ?_
  refine j_aload_n 1 dX7_readAny_2 rfl ?_
  refine j_iload_n 2 dX7_readAny_3 rfl ?_
  refine j_invV (As := [.inl a1]) dX7_readAny_4 msRX7_112 mbX7_readOne rfl rfl (Nat.le_of_ble_eq_true rfl) (Nat.le_of_ble_eq_true rfl) (by omega) (h0 7 (by decide)) rfl rfl (hrc1 _ _ _ _ h) ?_
  rintro _ zM2 zN3 ⟨zr1, rfl, h⟩
  refine j_istore_n dX7_readAny_7 (by decide) rfl ?_
  refine j_iconst (v := 0) dX7_readAny_8 (by decide) ?_
  refine j_istore dX7_readAny_9 (by decide) rfl ?_
  refine j_sub [3, 4, 2, 1, 0] rfl ?_
  obtain ⟨n, h⟩ := h
  exact k_X7_readAnyO_p11 h0 hdd hrc0 hrc1 hrc2 hrc3 n _ _ _ _ _ _ h
def w_X7_readOneO_p17 (rc : Nat → Int32 → am_I → am_N → (Int32 → am_I → am_N → Prop) → Prop) (post : Int32 → am_I → am_N → Prop) (l1 : Int32) (l2 : Int32) (M : am_I) (N : am_N) : Prop :=
  ((l1 < 9 → ((¬ l2 = 91 → rc 1 (l1 + 1) (am_u M (0, 0, 7) 6 ((M (0, 0, 7) 6) + 1)) N (fun zr1 zM2 zN3 => w_X7_emit (-8) zM2 zN3 (fun zM4 zN5 => (zr1 = 0 ∨ zr1 = 1) ∧ post zr1 zM4 zN5))) ∧ (l2 = 91 → rc 0 (l1 + 1) (am_u M (0, 0, 7) 6 ((M (0, 0, 7) 6) + 1)) N (fun zr6 zM7 zN8 => ((zr6 = 0 → post 0 zM7 zN8) ∧ (¬ zr6 = 0 → w_X7_accept 93 zM7 zN8 (fun zr9 zM10 zN11 => ((zr9 = 0 → post 0 zM10 zN11) ∧ (¬ zr9 = 0 → post 1 zM10 zN11))))))))) ∧ (¬ l1 < 9 → post 0 M N))
set_option maxRecDepth 10000 in
theorem k_X7_readOneO_p17 {d e : Nat} {dm : List am_C} {rc : Nat → Int32 → am_I → am_N → (Int32 → am_I → am_N → Prop) → Prop} (h0 : am_d0 dm) (hdd : e < d + 2) (hrc0 : ∀ (a1 : Int32) (M : am_I) (N : am_N) (post : Int32 → am_I → am_N → Prop), rc 0 a1 M N post → jg e mX7_readAny dm 0 [(0, .inr (.inr (0, 0, 7))), (1, .inl a1)] [] M N (am_pi post)) (hrc1 : ∀ (a1 : Int32) (M : am_I) (N : am_N) (post : Int32 → am_I → am_N → Prop), rc 1 a1 M N post → jg e mX7_readOne dm 0 [(0, .inr (.inr (0, 0, 7))), (1, .inl a1)] [] M N (am_pi post)) (hrc2 : ∀ (a1 : Int32) (M : am_I) (N : am_N) (post : Int32 → am_I → am_N → Prop), rc 2 a1 M N post → jg e mX7_readSum dm 0 [(0, .inr (.inr (0, 0, 7))), (1, .inl a1)] [] M N (am_pi post)) (hrc3 : ∀ (a1 : Int32) (M : am_I) (N : am_N) (post : Int32 → am_I → am_N → Prop), rc 3 a1 M N post → jg e mX7_readAtom dm 0 [(0, .inr (.inr (0, 0, 7))), (1, .inl a1)] [] M N (am_pi post)) {post : Int32 → am_I → am_N → Prop} (l1 : Int32) (l2 : Int32) (M : am_I) (N : am_N) (h : w_X7_readOneO_p17 rc post l1 l2 M N) : jg (d + 2) mX7_readOne dm 17 [(0, .inr (.inr (0, 0, 7))), (1, .inl l1), (2, .inl l2)] [] M N (am_pi post) := by
  refine j_iload_n 1 dX7_readOne_17 rfl ?_
  refine j_bipush (v := 9) dX7_readOne_18 (by decide) ?_
  refine j_icmp_lt (tgt := 25) dX7_readOne_20 (by decide) (fun hc => ?_) (fun hc => ?_)
  · replace h := h.1 hc
    refine j_aload_n 0 dX7_readOne_25 rfl ?_
    refine j_dup dX7_readOne_26 rfl ?_
    refine j_getI dX7_readOne_27 fsRX7_38 (h0 7 (by decide)) rfl ?_
    refine j_iconst (v := 1) dX7_readOne_30 (by decide) ?_
    refine j_iadd dX7_readOne_31 ?_
    refine j_putI dX7_readOne_32 fwRX7_38 (h0 7 (by decide)) rfl ?_
    refine j_iload_n 2 dX7_readOne_35 rfl ?_
    refine j_bipush (v := 91) dX7_readOne_36 (by decide) ?_
    refine j_icmp_ne (tgt := 66) dX7_readOne_38 (by decide) (fun hc => ?_) (fun hc => ?_)
    · replace h := h.1 hc
      refine j_aload_n 0 dX7_readOne_66 rfl ?_
      refine j_iload_n 1 dX7_readOne_67 rfl ?_
      refine j_iconst (v := 1) dX7_readOne_68 (by decide) ?_
      refine j_iadd dX7_readOne_69 ?_
      refine j_invV (As := [.inl (l1 + 1)]) dX7_readOne_70 msRX7_112 mbX7_readOne rfl rfl (Nat.le_of_ble_eq_true rfl) (Nat.le_of_ble_eq_true rfl) (by omega) (h0 7 (by decide)) rfl rfl (hrc1 _ _ _ _ h) ?_
      rintro _ zM2 zN3 ⟨zr1, rfl, h⟩
      refine j_istore_n dX7_readOne_73 (by decide) rfl ?_
      refine j_aload_n 1 dX7_readOne_74 rfl ?_
      refine j_bipush (v := (-8)) dX7_readOne_75 (by decide) ?_
      refine j_invV (As := [.inl (-8)]) dX7_readOne_77 msRX7_99 mbX7_emit rfl rfl (Nat.le_of_ble_eq_true rfl) (Nat.le_of_ble_eq_true rfl) (by omega) (h0 7 (by decide)) rfl rfl (k_X7_emit (d := d + 0) h0 h) ?_
      rintro _ zM4 zN5 ⟨rfl, h⟩
      refine j_iload_n 0 dX7_readOne_80 rfl ?_
      exact j_zret dX7_readOne_81 rfl h.1 ⟨_, rfl, h.2⟩
    · replace h := h.2 hc
      refine j_aload_n 0 dX7_readOne_41 rfl ?_
      refine j_iload_n 1 dX7_readOne_42 rfl ?_
      refine j_iconst (v := 1) dX7_readOne_43 (by decide) ?_
      refine j_iadd dX7_readOne_44 ?_
      refine j_invV (As := [.inl (l1 + 1)]) dX7_readOne_45 msRX7_109 mbX7_readAny rfl rfl (Nat.le_of_ble_eq_true rfl) (Nat.le_of_ble_eq_true rfl) (by omega) (h0 7 (by decide)) rfl rfl (hrc0 _ _ _ _ h) ?_
      rintro _ zM7 zN8 ⟨zr6, rfl, h⟩
      refine j_if_eq (tgt := 64) dX7_readOne_48 (by decide) (fun hc => ?_) (fun hc => ?_)
      · replace h := h.1 hc
        refine j_iconst (v := 0) dX7_readOne_64 (by decide) ?_
        exact j_zret dX7_readOne_65 rfl (Or.inl rfl) ⟨_, rfl, h⟩
      · replace h := h.2 hc
        refine j_aload_n 0 dX7_readOne_51 rfl ?_
        refine j_bipush (v := 93) dX7_readOne_52 (by decide) ?_
        refine j_invV (As := [.inl 93]) dX7_readOne_54 msRX7_106 mbX7_accept rfl rfl (Nat.le_of_ble_eq_true rfl) (Nat.le_of_ble_eq_true rfl) (by omega) (h0 7 (by decide)) rfl rfl (k_X7_accept (d := d + 0) h0 h) ?_
        rintro _ zM10 zN11 ⟨zr9, rfl, h⟩
        refine j_if_eq (tgt := 64) dX7_readOne_57 (by decide) (fun hc => ?_) (fun hc => ?_)
        · replace h := h.1 hc
          refine j_iconst (v := 0) dX7_readOne_64 (by decide) ?_
          exact j_zret dX7_readOne_65 rfl (Or.inl rfl) ⟨_, rfl, h⟩
        · replace h := h.2 hc
          refine j_iconst (v := 1) dX7_readOne_60 (by decide) ?_
          refine j_goto (tgt := 65) dX7_readOne_61 (by decide) ?_
          exact j_zret dX7_readOne_65 rfl (Or.inr rfl) ⟨_, rfl, h⟩
  · replace h := h.2 hc
    refine j_iconst (v := 0) dX7_readOne_23 (by decide) ?_
    exact j_zret dX7_readOne_24 rfl (Or.inl rfl) ⟨_, rfl, h⟩
def w_X7_readOneO_p117 (rc : Nat → Int32 → am_I → am_N → (Int32 → am_I → am_N → Prop) → Prop) (post : Int32 → am_I → am_N → Prop) (l1 : Int32) (l3 : Int32) (M : am_I) (N : am_N) : Prop :=
  rc 2 l1 (am_u M (0, 0, 7) 6 ((M (0, 0, 7) 6) + 1)) N (fun zr1 zM2 zN3 => w_X7_emit (-l3) zM2 zN3 (fun zM4 zN5 => (zr1 = 0 ∨ zr1 = 1) ∧ post zr1 zM4 zN5))
set_option maxRecDepth 10000 in
theorem k_X7_readOneO_p117 {d e : Nat} {dm : List am_C} {rc : Nat → Int32 → am_I → am_N → (Int32 → am_I → am_N → Prop) → Prop} (h0 : am_d0 dm) (hdd : e < d + 2) (hrc0 : ∀ (a1 : Int32) (M : am_I) (N : am_N) (post : Int32 → am_I → am_N → Prop), rc 0 a1 M N post → jg e mX7_readAny dm 0 [(0, .inr (.inr (0, 0, 7))), (1, .inl a1)] [] M N (am_pi post)) (hrc1 : ∀ (a1 : Int32) (M : am_I) (N : am_N) (post : Int32 → am_I → am_N → Prop), rc 1 a1 M N post → jg e mX7_readOne dm 0 [(0, .inr (.inr (0, 0, 7))), (1, .inl a1)] [] M N (am_pi post)) (hrc2 : ∀ (a1 : Int32) (M : am_I) (N : am_N) (post : Int32 → am_I → am_N → Prop), rc 2 a1 M N post → jg e mX7_readSum dm 0 [(0, .inr (.inr (0, 0, 7))), (1, .inl a1)] [] M N (am_pi post)) (hrc3 : ∀ (a1 : Int32) (M : am_I) (N : am_N) (post : Int32 → am_I → am_N → Prop), rc 3 a1 M N post → jg e mX7_readAtom dm 0 [(0, .inr (.inr (0, 0, 7))), (1, .inl a1)] [] M N (am_pi post)) {post : Int32 → am_I → am_N → Prop} (l1 : Int32) (l3 : Int32) (M : am_I) (N : am_N) (h : w_X7_readOneO_p117 rc post l1 l3 M N) : jg (d + 2) mX7_readOne dm 117 [(0, .inr (.inr (0, 0, 7))), (1, .inl l1), (3, .inl l3)] [] M N (am_pi post) := by
  refine j_aload_n 0 dX7_readOne_117 rfl ?_
  refine j_dup dX7_readOne_118 rfl ?_
  refine j_getI dX7_readOne_119 fsRX7_38 (h0 7 (by decide)) rfl ?_
  refine j_iconst (v := 1) dX7_readOne_122 (by decide) ?_
  refine j_iadd dX7_readOne_123 ?_
  refine j_putI dX7_readOne_124 fwRX7_38 (h0 7 (by decide)) rfl ?_
  refine j_aload_n 0 dX7_readOne_127 rfl ?_
  refine j_iload_n 1 dX7_readOne_128 rfl ?_
  refine j_invV (As := [.inl l1]) dX7_readOne_129 msRX7_102 mbX7_readSum rfl rfl (Nat.le_of_ble_eq_true rfl) (Nat.le_of_ble_eq_true rfl) (by omega) (h0 7 (by decide)) rfl rfl (hrc2 _ _ _ _ h) ?_
  rintro _ zM2 zN3 ⟨zr1, rfl, h⟩
  refine j_istore dX7_readOne_132 (by decide) rfl ?_
  refine j_aload_n 1 dX7_readOne_134 rfl ?_
  refine j_iload_n 3 dX7_readOne_135 rfl ?_
  refine j_ineg dX7_readOne_136 ?_
  refine j_invV (As := [.inl (-l3)]) dX7_readOne_137 msRX7_99 mbX7_emit rfl rfl (Nat.le_of_ble_eq_true rfl) (Nat.le_of_ble_eq_true rfl) (by omega) (h0 7 (by decide)) rfl rfl (k_X7_emit (d := d + 0) h0 h) ?_
  rintro _ zM4 zN5 ⟨rfl, h⟩
  refine j_iload 0 dX7_readOne_140 rfl ?_
  exact j_zret dX7_readOne_142 rfl h.1 ⟨_, rfl, h.2⟩
def w_X7_readOneO (rc : Nat → Int32 → am_I → am_N → (Int32 → am_I → am_N → Prop) → Prop) (a1 : Int32) (M : am_I) (N : am_N) (post : Int32 → am_I → am_N → Prop) : Prop :=
  w_X7_here M N (fun zr1 zM2 zN3 => ((zr1 = 8 → w_X7_readOneO_p17 rc post a1 zr1 zM2 zN3) ∧ (¬ zr1 = 8 → ((¬ zr1 = 91 → rc 2 a1 zM2 zN3 (fun zr4 zM5 zN6 => ((¬ zr4 = 0 → w_X7_here zM5 zN6 (fun zr7 zM8 zN9 => ((zr7 = 60 → w_X7_readOneO_p117 rc post a1 zr7 zM8 zN9) ∧ (¬ zr7 = 60 → ((zr7 = 62 → w_X7_readOneO_p117 rc post a1 zr7 zM8 zN9) ∧ (¬ zr7 = 62 → ((zr7 = 61 → w_X7_readOneO_p117 rc post a1 zr7 zM8 zN9) ∧ (¬ zr7 = 61 → post 0 zM8 zN9)))))))) ∧ (zr4 = 0 → post 0 zM5 zN6)))) ∧ (zr1 = 91 → w_X7_readOneO_p17 rc post a1 zr1 zM2 zN3)))))
set_option maxRecDepth 10000 in
theorem k_X7_readOneO {d e : Nat} {dm : List am_C} {rc : Nat → Int32 → am_I → am_N → (Int32 → am_I → am_N → Prop) → Prop} (h0 : am_d0 dm) (hdd : e < d + 2) (hrc0 : ∀ (a1 : Int32) (M : am_I) (N : am_N) (post : Int32 → am_I → am_N → Prop), rc 0 a1 M N post → jg e mX7_readAny dm 0 [(0, .inr (.inr (0, 0, 7))), (1, .inl a1)] [] M N (am_pi post)) (hrc1 : ∀ (a1 : Int32) (M : am_I) (N : am_N) (post : Int32 → am_I → am_N → Prop), rc 1 a1 M N post → jg e mX7_readOne dm 0 [(0, .inr (.inr (0, 0, 7))), (1, .inl a1)] [] M N (am_pi post)) (hrc2 : ∀ (a1 : Int32) (M : am_I) (N : am_N) (post : Int32 → am_I → am_N → Prop), rc 2 a1 M N post → jg e mX7_readSum dm 0 [(0, .inr (.inr (0, 0, 7))), (1, .inl a1)] [] M N (am_pi post)) (hrc3 : ∀ (a1 : Int32) (M : am_I) (N : am_N) (post : Int32 → am_I → am_N → Prop), rc 3 a1 M N post → jg e mX7_readAtom dm 0 [(0, .inr (.inr (0, 0, 7))), (1, .inl a1)] [] M N (am_pi post)) {a1 : Int32} {M : am_I} {N : am_N} {post : Int32 → am_I → am_N → Prop} (h : w_X7_readOneO rc a1 M N post) : jg (d + 2) mX7_readOne dm 0 [(0, .inr (.inr (0, 0, 7))), (1, .inl a1)] [] M N (am_pi post) := by
  refine j_aload_n 0 dX7_readOne_0 rfl ?_
  refine j_invV (As := []) dX7_readOne_1 msRX7_47 mbX7_here rfl rfl (Nat.le_of_ble_eq_true rfl) (Nat.le_of_ble_eq_true rfl) (by omega) (h0 7 (by decide)) rfl rfl (k_X7_here (d := d + 0) h0 h) ?_
  rintro _ zM2 zN3 ⟨zr1, rfl, h⟩
  refine j_istore_n dX7_readOne_4 (by decide) rfl ?_
  refine j_iload_n 0 dX7_readOne_5 rfl ?_
  refine j_bipush (v := 8) dX7_readOne_6 (by decide) ?_
  refine j_icmp_eq (tgt := 17) dX7_readOne_8 (by decide) (fun hc => ?_) (fun hc => ?_)
  · replace h := h.1 hc
    refine j_sub [1, 2, 0] rfl ?_
    exact k_X7_readOneO_p17 h0 hdd hrc0 hrc1 hrc2 hrc3 _ _ _ _ h
  · replace h := h.2 hc
    refine j_iload_n 0 dX7_readOne_11 rfl ?_
    refine j_bipush (v := 91) dX7_readOne_12 (by decide) ?_
    refine j_icmp_ne (tgt := 82) dX7_readOne_14 (by decide) (fun hc => ?_) (fun hc => ?_)
    · replace h := h.1 hc
      refine j_aload_n 1 dX7_readOne_82 rfl ?_
      refine j_iload_n 2 dX7_readOne_83 rfl ?_
      refine j_invV (As := [.inl a1]) dX7_readOne_84 msRX7_102 mbX7_readSum rfl rfl (Nat.le_of_ble_eq_true rfl) (Nat.le_of_ble_eq_true rfl) (by omega) (h0 7 (by decide)) rfl rfl (hrc2 _ _ _ _ h) ?_
      rintro _ zM5 zN6 ⟨zr4, rfl, h⟩
      refine j_if_ne (tgt := 92) dX7_readOne_87 (by decide) (fun hc => ?_) (fun hc => ?_)
      · replace h := h.1 hc
        refine j_aload_n 1 dX7_readOne_92 rfl ?_
        refine j_invV (As := []) dX7_readOne_93 msRX7_47 mbX7_here rfl rfl (Nat.le_of_ble_eq_true rfl) (Nat.le_of_ble_eq_true rfl) (by omega) (h0 7 (by decide)) rfl rfl (k_X7_here (d := d + 0) h0 h) ?_
        rintro _ zM8 zN9 ⟨zr7, rfl, h⟩
        refine j_istore_n dX7_readOne_96 (by decide) rfl ?_
        refine j_iload_n 0 dX7_readOne_97 rfl ?_
        refine j_bipush (v := 60) dX7_readOne_98 (by decide) ?_
        refine j_icmp_eq (tgt := 117) dX7_readOne_100 (by decide) (fun hc => ?_) (fun hc => ?_)
        · replace h := h.1 hc
          refine j_sub [2, 3, 0] rfl ?_
          exact k_X7_readOneO_p117 h0 hdd hrc0 hrc1 hrc2 hrc3 _ _ _ _ h
        · replace h := h.2 hc
          refine j_iload_n 0 dX7_readOne_103 rfl ?_
          refine j_bipush (v := 62) dX7_readOne_104 (by decide) ?_
          refine j_icmp_eq (tgt := 117) dX7_readOne_106 (by decide) (fun hc => ?_) (fun hc => ?_)
          · replace h := h.1 hc
            refine j_sub [2, 3, 0] rfl ?_
            exact k_X7_readOneO_p117 h0 hdd hrc0 hrc1 hrc2 hrc3 _ _ _ _ h
          · replace h := h.2 hc
            refine j_iload_n 0 dX7_readOne_109 rfl ?_
            refine j_bipush (v := 61) dX7_readOne_110 (by decide) ?_
            refine j_icmp_eq (tgt := 117) dX7_readOne_112 (by decide) (fun hc => ?_) (fun hc => ?_)
            · replace h := h.1 hc
              refine j_sub [2, 3, 0] rfl ?_
              exact k_X7_readOneO_p117 h0 hdd hrc0 hrc1 hrc2 hrc3 _ _ _ _ h
            · replace h := h.2 hc
              refine j_iconst (v := 0) dX7_readOne_115 (by decide) ?_
              exact j_zret dX7_readOne_116 rfl (Or.inl rfl) ⟨_, rfl, h⟩
      · replace h := h.2 hc
        refine j_iconst (v := 0) dX7_readOne_90 (by decide) ?_
        exact j_zret dX7_readOne_91 rfl (Or.inl rfl) ⟨_, rfl, h⟩
    · replace h := h.2 hc
      refine j_sub [1, 2, 0] rfl ?_
      exact k_X7_readOneO_p17 h0 hdd hrc0 hrc1 hrc2 hrc3 _ _ _ _ h
def w_X7_readSumO_p115 (rc : Nat → Int32 → am_I → am_N → (Int32 → am_I → am_N → Prop) → Prop) (post : Int32 → am_I → am_N → Prop) (l2 : Int32) (l3 : Int32) (M : am_I) (N : am_N) : Prop :=
  ((l2 = 0 → (l3 = 0 ∨ l3 = 1) ∧ post l3 M N) ∧ (¬ l2 = 0 → w_X7_emit (-l2) M N (fun zM1 zN2 => (l3 = 0 ∨ l3 = 1) ∧ post l3 zM1 zN2)))
set_option maxRecDepth 10000 in
theorem k_X7_readSumO_p115 {d e : Nat} {dm : List am_C} {rc : Nat → Int32 → am_I → am_N → (Int32 → am_I → am_N → Prop) → Prop} (h0 : am_d0 dm) (hdd : e < d + 2) (hrc0 : ∀ (a1 : Int32) (M : am_I) (N : am_N) (post : Int32 → am_I → am_N → Prop), rc 0 a1 M N post → jg e mX7_readAny dm 0 [(0, .inr (.inr (0, 0, 7))), (1, .inl a1)] [] M N (am_pi post)) (hrc1 : ∀ (a1 : Int32) (M : am_I) (N : am_N) (post : Int32 → am_I → am_N → Prop), rc 1 a1 M N post → jg e mX7_readOne dm 0 [(0, .inr (.inr (0, 0, 7))), (1, .inl a1)] [] M N (am_pi post)) (hrc2 : ∀ (a1 : Int32) (M : am_I) (N : am_N) (post : Int32 → am_I → am_N → Prop), rc 2 a1 M N post → jg e mX7_readSum dm 0 [(0, .inr (.inr (0, 0, 7))), (1, .inl a1)] [] M N (am_pi post)) (hrc3 : ∀ (a1 : Int32) (M : am_I) (N : am_N) (post : Int32 → am_I → am_N → Prop), rc 3 a1 M N post → jg e mX7_readAtom dm 0 [(0, .inr (.inr (0, 0, 7))), (1, .inl a1)] [] M N (am_pi post)) {post : Int32 → am_I → am_N → Prop} (l2 : Int32) (l3 : Int32) (M : am_I) (N : am_N) (h : w_X7_readSumO_p115 rc post l2 l3 M N) : jg (d + 2) mX7_readSum dm 115 [(0, .inr (.inr (0, 0, 7))), (2, .inl l2), (3, .inl l3)] [] M N (am_pi post) := by
  refine j_iload_n 1 dX7_readSum_115 rfl ?_
  refine j_if_eq (tgt := 125) dX7_readSum_116 (by decide) (fun hc => ?_) (fun hc => ?_)
  · replace h := h.1 hc
    refine j_iload_n 2 dX7_readSum_125 rfl ?_
    exact j_zret dX7_readSum_126 rfl h.1 ⟨_, rfl, h.2⟩
  · replace h := h.2 hc
    refine j_aload_n 0 dX7_readSum_119 rfl ?_
    refine j_iload_n 1 dX7_readSum_120 rfl ?_
    refine j_ineg dX7_readSum_121 ?_
    refine j_invV (As := [.inl (-l2)]) dX7_readSum_122 msRX7_99 mbX7_emit rfl rfl (Nat.le_of_ble_eq_true rfl) (Nat.le_of_ble_eq_true rfl) (by omega) (h0 7 (by decide)) rfl rfl (k_X7_emit (d := d + 0) h0 h) ?_
    rintro _ zM1 zN2 ⟨rfl, h⟩
    refine j_iload_n 2 dX7_readSum_125 rfl ?_
    exact j_zret dX7_readSum_126 rfl h.1 ⟨_, rfl, h.2⟩
def w_X7_readSumO_p85 (rc : Nat → Int32 → am_I → am_N → (Int32 → am_I → am_N → Prop) → Prop) (post : Int32 → am_I → am_N → Prop) (zk11 : Int32 → Int32 → Int32 → Int32 → am_I → am_N → Prop) (l1 : Int32) (l2 : Int32) (l4 : Int32) (l5 : Int32) (l6 : Int32) (M : am_I) (N : am_N) : Prop :=
  rc 3 l1 M N (fun zr1 zM2 zN3 => ((l6 = 0 → zk11 l1 l5 zr1 (l4 + 1) zM2 zN3) ∧ (¬ l6 = 0 → w_X7_emit (-l5) zM2 zN3 (fun zM4 zN5 => zk11 l1 l2 zr1 (l4 + 1) zM4 zN5))))
set_option maxRecDepth 10000 in
theorem k_X7_readSumO_p85 {d e : Nat} {dm : List am_C} {rc : Nat → Int32 → am_I → am_N → (Int32 → am_I → am_N → Prop) → Prop} (h0 : am_d0 dm) (hdd : e < d + 2) (hrc0 : ∀ (a1 : Int32) (M : am_I) (N : am_N) (post : Int32 → am_I → am_N → Prop), rc 0 a1 M N post → jg e mX7_readAny dm 0 [(0, .inr (.inr (0, 0, 7))), (1, .inl a1)] [] M N (am_pi post)) (hrc1 : ∀ (a1 : Int32) (M : am_I) (N : am_N) (post : Int32 → am_I → am_N → Prop), rc 1 a1 M N post → jg e mX7_readOne dm 0 [(0, .inr (.inr (0, 0, 7))), (1, .inl a1)] [] M N (am_pi post)) (hrc2 : ∀ (a1 : Int32) (M : am_I) (N : am_N) (post : Int32 → am_I → am_N → Prop), rc 2 a1 M N post → jg e mX7_readSum dm 0 [(0, .inr (.inr (0, 0, 7))), (1, .inl a1)] [] M N (am_pi post)) (hrc3 : ∀ (a1 : Int32) (M : am_I) (N : am_N) (post : Int32 → am_I → am_N → Prop), rc 3 a1 M N post → jg e mX7_readAtom dm 0 [(0, .inr (.inr (0, 0, 7))), (1, .inl a1)] [] M N (am_pi post)) {post : Int32 → am_I → am_N → Prop} {zk11 : Int32 → Int32 → Int32 → Int32 → am_I → am_N → Prop} (zhk11 : ∀ (l1 : Int32) (l2 : Int32) (l3 : Int32) (l4 : Int32) (M : am_I) (N : am_N), zk11 l1 l2 l3 l4 M N → jg (d + 2) mX7_readSum dm 11 [(0, .inr (.inr (0, 0, 7))), (1, .inl l1), (2, .inl l2), (3, .inl l3), (4, .inl l4)] [] M N (am_pi post)) (l1 : Int32) (l2 : Int32) (l4 : Int32) (l5 : Int32) (l6 : Int32) (M : am_I) (N : am_N) (h : w_X7_readSumO_p85 rc post zk11 l1 l2 l4 l5 l6 M N) : jg (d + 2) mX7_readSum dm 85 [(0, .inr (.inr (0, 0, 7))), (1, .inl l1), (2, .inl l2), (4, .inl l4), (5, .inl l5), (6, .inl l6)] [] M N (am_pi post) := by
  refine j_aload_n 0 dX7_readSum_85 rfl ?_
  refine j_iload_n 1 dX7_readSum_86 rfl ?_
  refine j_invV (As := [.inl l1]) dX7_readSum_87 msRX7_115 mbX7_readAtom rfl rfl (Nat.le_of_ble_eq_true rfl) (Nat.le_of_ble_eq_true rfl) (by omega) (h0 7 (by decide)) rfl rfl (hrc3 _ _ _ _ h) ?_
  rintro _ zM2 zN3 ⟨zr1, rfl, h⟩
  refine j_istore_n dX7_readSum_90 (by decide) rfl ?_
  refine j_iload 6 dX7_readSum_91 rfl ?_
  refine j_if_eq (tgt := 106) dX7_readSum_93 (by decide) (fun hc => ?_) (fun hc => ?_)
  · replace h := h.1 hc
    refine j_iload 5 dX7_readSum_106 rfl ?_
    refine j_istore_n dX7_readSum_108 (by decide) rfl ?_
    refine j_iinc 4 dX7_readSum_109 rfl rfl (by decide) rfl ?_
    refine j_goto (tgt := 11) dX7_readSum_112 (by decide) ?_
    refine j_sub [3, 4, 1, 2, 0] rfl ?_
    exact zhk11 _ _ _ _ _ _ h
  · replace h := h.2 hc
    refine j_aload_n 1 dX7_readSum_96 rfl ?_
    refine j_iload 5 dX7_readSum_97 rfl ?_
    refine j_ineg dX7_readSum_99 ?_
    refine j_invV (As := [.inl (-l5)]) dX7_readSum_100 msRX7_99 mbX7_emit rfl rfl (Nat.le_of_ble_eq_true rfl) (Nat.le_of_ble_eq_true rfl) (by omega) (h0 7 (by decide)) rfl rfl (k_X7_emit (d := d + 0) h0 h) ?_
    rintro _ zM4 zN5 ⟨rfl, h⟩
    refine j_goto (tgt := 109) dX7_readSum_103 (by decide) ?_
    refine j_iinc 4 dX7_readSum_109 rfl rfl (by decide) rfl ?_
    refine j_goto (tgt := 11) dX7_readSum_112 (by decide) ?_
    refine j_sub [2, 3, 4, 1, 0] rfl ?_
    exact zhk11 _ _ _ _ _ _ h
def w_X7_readSumO_p68 (rc : Nat → Int32 → am_I → am_N → (Int32 → am_I → am_N → Prop) → Prop) (post : Int32 → am_I → am_N → Prop) (zk11 : Int32 → Int32 → Int32 → Int32 → am_I → am_N → Prop) (l1 : Int32) (l2 : Int32) (l4 : Int32) (l5 : Int32) (s0 : Int32) (M : am_I) (N : am_N) : Prop :=
  ((¬ s0 = 0 → w_X7_readSumO_p85 rc post zk11 l1 l2 l4 l5 s0 M N) ∧ (s0 = 0 → ((l2 = 0 → w_X7_readSumO_p85 rc post zk11 l1 l2 l4 l5 s0 M N) ∧ (¬ l2 = 0 → w_X7_emit (-l2) M N (fun zM1 zN2 => w_X7_readSumO_p85 rc post zk11 l1 l2 l4 l5 s0 zM1 zN2)))))
set_option maxRecDepth 10000 in
theorem k_X7_readSumO_p68 {d e : Nat} {dm : List am_C} {rc : Nat → Int32 → am_I → am_N → (Int32 → am_I → am_N → Prop) → Prop} (h0 : am_d0 dm) (hdd : e < d + 2) (hrc0 : ∀ (a1 : Int32) (M : am_I) (N : am_N) (post : Int32 → am_I → am_N → Prop), rc 0 a1 M N post → jg e mX7_readAny dm 0 [(0, .inr (.inr (0, 0, 7))), (1, .inl a1)] [] M N (am_pi post)) (hrc1 : ∀ (a1 : Int32) (M : am_I) (N : am_N) (post : Int32 → am_I → am_N → Prop), rc 1 a1 M N post → jg e mX7_readOne dm 0 [(0, .inr (.inr (0, 0, 7))), (1, .inl a1)] [] M N (am_pi post)) (hrc2 : ∀ (a1 : Int32) (M : am_I) (N : am_N) (post : Int32 → am_I → am_N → Prop), rc 2 a1 M N post → jg e mX7_readSum dm 0 [(0, .inr (.inr (0, 0, 7))), (1, .inl a1)] [] M N (am_pi post)) (hrc3 : ∀ (a1 : Int32) (M : am_I) (N : am_N) (post : Int32 → am_I → am_N → Prop), rc 3 a1 M N post → jg e mX7_readAtom dm 0 [(0, .inr (.inr (0, 0, 7))), (1, .inl a1)] [] M N (am_pi post)) {post : Int32 → am_I → am_N → Prop} {zk11 : Int32 → Int32 → Int32 → Int32 → am_I → am_N → Prop} (zhk11 : ∀ (l1 : Int32) (l2 : Int32) (l3 : Int32) (l4 : Int32) (M : am_I) (N : am_N), zk11 l1 l2 l3 l4 M N → jg (d + 2) mX7_readSum dm 11 [(0, .inr (.inr (0, 0, 7))), (1, .inl l1), (2, .inl l2), (3, .inl l3), (4, .inl l4)] [] M N (am_pi post)) (l1 : Int32) (l2 : Int32) (l4 : Int32) (l5 : Int32) (s0 : Int32) (M : am_I) (N : am_N) (h : w_X7_readSumO_p68 rc post zk11 l1 l2 l4 l5 s0 M N) : jg (d + 2) mX7_readSum dm 68 [(0, .inr (.inr (0, 0, 7))), (1, .inl l1), (2, .inl l2), (4, .inl l4), (5, .inl l5)] [.inl s0] M N (am_pi post) := by
  refine j_istore dX7_readSum_68 (by decide) rfl ?_
  refine j_iload 0 dX7_readSum_70 rfl ?_
  refine j_if_ne (tgt := 85) dX7_readSum_72 (by decide) (fun hc => ?_) (fun hc => ?_)
  · replace h := h.1 hc
    refine j_sub [1, 2, 3, 4, 5, 0] rfl ?_
    exact k_X7_readSumO_p85 h0 hdd hrc0 hrc1 hrc2 hrc3 zhk11 _ _ _ _ _ _ _ h
  · replace h := h.2 hc
    refine j_iload_n 3 dX7_readSum_75 rfl ?_
    refine j_if_eq (tgt := 85) dX7_readSum_76 (by decide) (fun hc => ?_) (fun hc => ?_)
    · replace h := h.1 hc
      refine j_sub [1, 2, 3, 4, 5, 0] rfl ?_
      exact k_X7_readSumO_p85 h0 hdd hrc0 hrc1 hrc2 hrc3 zhk11 _ _ _ _ _ _ _ h
    · replace h := h.2 hc
      refine j_aload_n 1 dX7_readSum_79 rfl ?_
      refine j_iload_n 3 dX7_readSum_80 rfl ?_
      refine j_ineg dX7_readSum_81 ?_
      refine j_invV (As := [.inl (-l2)]) dX7_readSum_82 msRX7_99 mbX7_emit rfl rfl (Nat.le_of_ble_eq_true rfl) (Nat.le_of_ble_eq_true rfl) (by omega) (h0 7 (by decide)) rfl rfl (k_X7_emit (d := d + 0) h0 h) ?_
      rintro _ zM1 zN2 ⟨rfl, h⟩
      refine j_sub [1, 2, 3, 4, 5, 0] rfl ?_
      exact k_X7_readSumO_p85 h0 hdd hrc0 hrc1 hrc2 hrc3 zhk11 _ _ _ _ _ _ _ h
def w_X7_readSumO_p11_b (rc : Nat → Int32 → am_I → am_N → (Int32 → am_I → am_N → Prop) → Prop) (post : Int32 → am_I → am_N → Prop) (zk11 : Int32 → Int32 → Int32 → Int32 → am_I → am_N → Prop) (l1 : Int32) (l2 : Int32) (l3 : Int32) (l4 : Int32) (M : am_I) (N : am_N) : Prop :=
  ((500 ≤ l4 → w_X7_readSumO_p115 rc post l2 l3 M N) ∧ (¬ 500 ≤ l4 → ((l3 = 0 → w_X7_readSumO_p115 rc post l2 l3 M N) ∧ (¬ l3 = 0 → w_X7_here M N (fun zr1 zM2 zN3 => w_X7_isOperator zr1 zM2 zN3 (fun zr4 zM5 zN6 => ((zr4 = 0 → w_X7_readSumO_p115 rc post l2 l3 zM5 zN6) ∧ (¬ zr4 = 0 → w_X7_here zM5 zN6 (fun zr7 zM8 zN9 => ((zr7 = 42 → w_X7_readSumO_p68 rc post zk11 l1 l2 l4 zr7 1 (am_u zM8 (0, 0, 7) 6 ((zM8 (0, 0, 7) 6) + 1)) zN9) ∧ (¬ zr7 = 42 → ((¬ zr7 = 47 → w_X7_readSumO_p68 rc post zk11 l1 l2 l4 zr7 0 (am_u zM8 (0, 0, 7) 6 ((zM8 (0, 0, 7) 6) + 1)) zN9) ∧ (zr7 = 47 → w_X7_readSumO_p68 rc post zk11 l1 l2 l4 zr7 1 (am_u zM8 (0, 0, 7) 6 ((zM8 (0, 0, 7) 6) + 1)) zN9)))))))))))))
noncomputable def w_X7_readSumO_p11 (rc : Nat → Int32 → am_I → am_N → (Int32 → am_I → am_N → Prop) → Prop) (post : Int32 → am_I → am_N → Prop) (n : Nat) : Int32 → Int32 → Int32 → Int32 → am_I → am_N → Prop :=
  Nat.rec (motive := fun _ => Int32 → Int32 → Int32 → Int32 → am_I → am_N → Prop) (fun _ _ _ _ _ _ => False) (fun _ zk => w_X7_readSumO_p11_b rc post zk) n
theorem w_X7_readSumO_p11_s (rc : Nat → Int32 → am_I → am_N → (Int32 → am_I → am_N → Prop) → Prop) (post : Int32 → am_I → am_N → Prop) (n : Nat) (l1 : Int32) (l2 : Int32) (l3 : Int32) (l4 : Int32) (M : am_I) (N : am_N) : w_X7_readSumO_p11 rc post (n + 1) l1 l2 l3 l4 M N = w_X7_readSumO_p11_b rc post (w_X7_readSumO_p11 rc post n) l1 l2 l3 l4 M N := rfl
set_option maxRecDepth 10000 in
theorem k_X7_readSumO_p11 {d e : Nat} {dm : List am_C} {rc : Nat → Int32 → am_I → am_N → (Int32 → am_I → am_N → Prop) → Prop} (h0 : am_d0 dm) (hdd : e < d + 2) (hrc0 : ∀ (a1 : Int32) (M : am_I) (N : am_N) (post : Int32 → am_I → am_N → Prop), rc 0 a1 M N post → jg e mX7_readAny dm 0 [(0, .inr (.inr (0, 0, 7))), (1, .inl a1)] [] M N (am_pi post)) (hrc1 : ∀ (a1 : Int32) (M : am_I) (N : am_N) (post : Int32 → am_I → am_N → Prop), rc 1 a1 M N post → jg e mX7_readOne dm 0 [(0, .inr (.inr (0, 0, 7))), (1, .inl a1)] [] M N (am_pi post)) (hrc2 : ∀ (a1 : Int32) (M : am_I) (N : am_N) (post : Int32 → am_I → am_N → Prop), rc 2 a1 M N post → jg e mX7_readSum dm 0 [(0, .inr (.inr (0, 0, 7))), (1, .inl a1)] [] M N (am_pi post)) (hrc3 : ∀ (a1 : Int32) (M : am_I) (N : am_N) (post : Int32 → am_I → am_N → Prop), rc 3 a1 M N post → jg e mX7_readAtom dm 0 [(0, .inr (.inr (0, 0, 7))), (1, .inl a1)] [] M N (am_pi post)) {post : Int32 → am_I → am_N → Prop} : ∀ (n : Nat) (l1 : Int32) (l2 : Int32) (l3 : Int32) (l4 : Int32) (M : am_I) (N : am_N), w_X7_readSumO_p11 rc post n l1 l2 l3 l4 M N → jg (d + 2) mX7_readSum dm 11 [(0, .inr (.inr (0, 0, 7))), (1, .inl l1), (2, .inl l2), (3, .inl l3), (4, .inl l4)] [] M N (am_pi post) := by
  intro n
  induction n with
  | zero => intro l1 l2 l3 l4 M N h; exact h.elim
  | succ n zih =>
    intro l1 l2 l3 l4 M N h
    replace h : w_X7_readSumO_p11_b rc post (w_X7_readSumO_p11 rc post n) l1 l2 l3 l4 M N := h
    refine j_iload 4 dX7_readSum_11 rfl ?_
    refine j_sipush (v := 500) dX7_readSum_13 (by decide) ?_
    refine j_icmp_ge (tgt := 115) dX7_readSum_16 (by decide) (fun hc => ?_) (fun hc => ?_)
    · replace h := h.1 hc
      refine j_sub [0, 2, 3] rfl ?_
      exact k_X7_readSumO_p115 h0 hdd hrc0 hrc1 hrc2 hrc3 _ _ _ _ h
    · replace h := h.2 hc
      refine j_iload_n 3 dX7_readSum_19 rfl ?_
      refine j_if_eq (tgt := 115) dX7_readSum_20 (by decide) (fun hc => ?_) (fun hc => ?_)
      · replace h := h.1 hc
        refine j_sub [0, 2, 3] rfl ?_
        exact k_X7_readSumO_p115 h0 hdd hrc0 hrc1 hrc2 hrc3 _ _ _ _ h
      · replace h := h.2 hc
        refine j_aload_n 0 dX7_readSum_23 rfl ?_
        refine j_invV (As := []) dX7_readSum_24 msRX7_47 mbX7_here rfl rfl (Nat.le_of_ble_eq_true rfl) (Nat.le_of_ble_eq_true rfl) (by omega) (h0 7 (by decide)) rfl rfl (k_X7_here (d := d + 0) h0 h) ?_
        rintro _ zM2 zN3 ⟨zr1, rfl, h⟩
        refine j_invS (As := [.inl zr1]) dX7_readSum_27 msRX7_118 mbX7_isOperator rfl rfl (Nat.le_of_ble_eq_true rfl) (Nat.le_of_ble_eq_true rfl) (by omega) (k_X7_isOperator (d := d + 0)  h) ?_
        rintro _ zM5 zN6 ⟨zr4, rfl, h⟩
        refine j_if_eq (tgt := 115) dX7_readSum_30 (by decide) (fun hc => ?_) (fun hc => ?_)
        · replace h := h.1 hc
          refine j_sub [0, 2, 3] rfl ?_
          exact k_X7_readSumO_p115 h0 hdd hrc0 hrc1 hrc2 hrc3 _ _ _ _ h
        · replace h := h.2 hc
          refine j_aload_n 0 dX7_readSum_33 rfl ?_
          refine j_invV (As := []) dX7_readSum_34 msRX7_47 mbX7_here rfl rfl (Nat.le_of_ble_eq_true rfl) (Nat.le_of_ble_eq_true rfl) (by omega) (h0 7 (by decide)) rfl rfl (k_X7_here (d := d + 0) h0 h) ?_
          rintro _ zM8 zN9 ⟨zr7, rfl, h⟩
          refine j_istore dX7_readSum_37 (by decide) rfl ?_
          refine j_aload_n 1 dX7_readSum_39 rfl ?_
          refine j_dup dX7_readSum_40 rfl ?_
          refine j_getI dX7_readSum_41 fsRX7_38 (h0 7 (by decide)) rfl ?_
          refine j_iconst (v := 1) dX7_readSum_44 (by decide) ?_
          refine j_iadd dX7_readSum_45 ?_
          refine j_putI dX7_readSum_46 fwRX7_38 (h0 7 (by decide)) rfl ?_
          refine j_iload 0 dX7_readSum_49 rfl ?_
          refine j_bipush (v := 42) dX7_readSum_51 (by decide) ?_
          refine j_icmp_eq (tgt := 63) dX7_readSum_53 (by decide) (fun hc => ?_) (fun hc => ?_)
          · replace h := h.1 hc
            refine j_iconst (v := 1) dX7_readSum_63 (by decide) ?_
            refine j_goto (tgt := 68) dX7_readSum_64 (by decide) ?_
            refine j_sub [1, 2, 3, 5, 0] rfl ?_
            exact k_X7_readSumO_p68 h0 hdd hrc0 hrc1 hrc2 hrc3 zih _ _ _ _ _ _ _ h
          · replace h := h.2 hc
            refine j_iload 0 dX7_readSum_56 rfl ?_
            refine j_bipush (v := 47) dX7_readSum_58 (by decide) ?_
            refine j_icmp_ne (tgt := 67) dX7_readSum_60 (by decide) (fun hc => ?_) (fun hc => ?_)
            · replace h := h.1 hc
              refine j_iconst (v := 0) dX7_readSum_67 (by decide) ?_
              refine j_sub [1, 2, 3, 5, 0] rfl ?_
              exact k_X7_readSumO_p68 h0 hdd hrc0 hrc1 hrc2 hrc3 zih _ _ _ _ _ _ _ h
            · replace h := h.2 hc
              refine j_iconst (v := 1) dX7_readSum_63 (by decide) ?_
              refine j_goto (tgt := 68) dX7_readSum_64 (by decide) ?_
              refine j_sub [1, 2, 3, 5, 0] rfl ?_
              exact k_X7_readSumO_p68 h0 hdd hrc0 hrc1 hrc2 hrc3 zih _ _ _ _ _ _ _ h
def w_X7_readSumO (rc : Nat → Int32 → am_I → am_N → (Int32 → am_I → am_N → Prop) → Prop) (a1 : Int32) (M : am_I) (N : am_N) (post : Int32 → am_I → am_N → Prop) : Prop :=
  rc 3 a1 M N (fun zr1 zM2 zN3 => ∃ n, w_X7_readSumO_p11 rc post n a1 0 zr1 0 zM2 zN3)
set_option maxRecDepth 10000 in
theorem k_X7_readSumO {d e : Nat} {dm : List am_C} {rc : Nat → Int32 → am_I → am_N → (Int32 → am_I → am_N → Prop) → Prop} (h0 : am_d0 dm) (hdd : e < d + 2) (hrc0 : ∀ (a1 : Int32) (M : am_I) (N : am_N) (post : Int32 → am_I → am_N → Prop), rc 0 a1 M N post → jg e mX7_readAny dm 0 [(0, .inr (.inr (0, 0, 7))), (1, .inl a1)] [] M N (am_pi post)) (hrc1 : ∀ (a1 : Int32) (M : am_I) (N : am_N) (post : Int32 → am_I → am_N → Prop), rc 1 a1 M N post → jg e mX7_readOne dm 0 [(0, .inr (.inr (0, 0, 7))), (1, .inl a1)] [] M N (am_pi post)) (hrc2 : ∀ (a1 : Int32) (M : am_I) (N : am_N) (post : Int32 → am_I → am_N → Prop), rc 2 a1 M N post → jg e mX7_readSum dm 0 [(0, .inr (.inr (0, 0, 7))), (1, .inl a1)] [] M N (am_pi post)) (hrc3 : ∀ (a1 : Int32) (M : am_I) (N : am_N) (post : Int32 → am_I → am_N → Prop), rc 3 a1 M N post → jg e mX7_readAtom dm 0 [(0, .inr (.inr (0, 0, 7))), (1, .inl a1)] [] M N (am_pi post)) {a1 : Int32} {M : am_I} {N : am_N} {post : Int32 → am_I → am_N → Prop} (h : w_X7_readSumO rc a1 M N post) : jg (d + 2) mX7_readSum dm 0 [(0, .inr (.inr (0, 0, 7))), (1, .inl a1)] [] M N (am_pi post) := by
  refine j_iconst (v := 0) dX7_readSum_0 (by decide) ?_
  refine j_istore_n dX7_readSum_1 (by decide) rfl ?_
  refine j_aload_n 1 dX7_readSum_2 rfl ?_
  refine j_iload_n 2 dX7_readSum_3 rfl ?_
  refine j_invV (As := [.inl a1]) dX7_readSum_4 msRX7_115 mbX7_readAtom rfl rfl (Nat.le_of_ble_eq_true rfl) (Nat.le_of_ble_eq_true rfl) (by omega) (h0 7 (by decide)) rfl rfl (hrc3 _ _ _ _ h) ?_
  rintro _ zM2 zN3 ⟨zr1, rfl, h⟩
  refine j_istore_n dX7_readSum_7 (by decide) rfl ?_
  refine j_iconst (v := 0) dX7_readSum_8 (by decide) ?_
  refine j_istore dX7_readSum_9 (by decide) rfl ?_
  refine j_sub [3, 4, 2, 1, 0] rfl ?_
  obtain ⟨n, h⟩ := h
  exact k_X7_readSumO_p11 h0 hdd hrc0 hrc1 hrc2 hrc3 n _ _ _ _ _ _ h
def w_X7_readAtomO (rc : Nat → Int32 → am_I → am_N → (Int32 → am_I → am_N → Prop) → Prop) (a1 : Int32) (M : am_I) (N : am_N) (post : Int32 → am_I → am_N → Prop) : Prop :=
  w_X7_here M N (fun zr1 zM2 zN3 => ((zr1 < 1000 → w_X11_within zr1 9 16 zM2 zN3 (fun zr4 zM5 zN6 => ((zr4 = 0 → ((¬ zr1 = 40 → post 0 zM5 zN6) ∧ (zr1 = 40 → ((a1 < 9 → rc 2 (a1 + 1) (am_u zM5 (0, 0, 7) 6 ((zM5 (0, 0, 7) 6) + 1)) zN6 (fun zr7 zM8 zN9 => ((zr7 = 0 → post 0 zM8 zN9) ∧ (¬ zr7 = 0 → w_X7_accept 41 zM8 zN9 (fun zr10 zM11 zN12 => ((zr10 = 0 → post 0 zM11 zN12) ∧ (¬ zr10 = 0 → post 1 zM11 zN12))))))) ∧ (¬ a1 < 9 → post 0 zM5 zN6))))) ∧ (¬ zr4 = 0 → w_X7_emit (-zr1) zM5 zN6 (fun zM13 zN14 => post 1 (am_u zM13 (0, 0, 7) 6 ((zM13 (0, 0, 7) 6) + 1)) zN14))))) ∧ (¬ zr1 < 1000 → w_X7_emit (zr1 - 1000) zM2 zN3 (fun zM15 zN16 => post 1 (am_u zM15 (0, 0, 7) 6 ((zM15 (0, 0, 7) 6) + 1)) zN16))))
set_option maxRecDepth 10000 in
theorem k_X7_readAtomO {d e : Nat} {dm : List am_C} {rc : Nat → Int32 → am_I → am_N → (Int32 → am_I → am_N → Prop) → Prop} (h0 : am_d0 dm) (hdd : e < d + 2) (hrc0 : ∀ (a1 : Int32) (M : am_I) (N : am_N) (post : Int32 → am_I → am_N → Prop), rc 0 a1 M N post → jg e mX7_readAny dm 0 [(0, .inr (.inr (0, 0, 7))), (1, .inl a1)] [] M N (am_pi post)) (hrc1 : ∀ (a1 : Int32) (M : am_I) (N : am_N) (post : Int32 → am_I → am_N → Prop), rc 1 a1 M N post → jg e mX7_readOne dm 0 [(0, .inr (.inr (0, 0, 7))), (1, .inl a1)] [] M N (am_pi post)) (hrc2 : ∀ (a1 : Int32) (M : am_I) (N : am_N) (post : Int32 → am_I → am_N → Prop), rc 2 a1 M N post → jg e mX7_readSum dm 0 [(0, .inr (.inr (0, 0, 7))), (1, .inl a1)] [] M N (am_pi post)) (hrc3 : ∀ (a1 : Int32) (M : am_I) (N : am_N) (post : Int32 → am_I → am_N → Prop), rc 3 a1 M N post → jg e mX7_readAtom dm 0 [(0, .inr (.inr (0, 0, 7))), (1, .inl a1)] [] M N (am_pi post)) {a1 : Int32} {M : am_I} {N : am_N} {post : Int32 → am_I → am_N → Prop} (h : w_X7_readAtomO rc a1 M N post) : jg (d + 2) mX7_readAtom dm 0 [(0, .inr (.inr (0, 0, 7))), (1, .inl a1)] [] M N (am_pi post) := by
  refine j_aload_n 0 dX7_readAtom_0 rfl ?_
  refine j_invV (As := []) dX7_readAtom_1 msRX7_47 mbX7_here rfl rfl (Nat.le_of_ble_eq_true rfl) (Nat.le_of_ble_eq_true rfl) (by omega) (h0 7 (by decide)) rfl rfl (k_X7_here (d := d + 0) h0 h) ?_
  rintro _ zM2 zN3 ⟨zr1, rfl, h⟩
  refine j_istore_n dX7_readAtom_4 (by decide) rfl ?_
  refine j_iload_n 0 dX7_readAtom_5 rfl ?_
  refine j_sipush (v := 1000) dX7_readAtom_6 (by decide) ?_
  refine j_icmp_lt (tgt := 33) dX7_readAtom_9 (by decide) (fun hc => ?_) (fun hc => ?_)
  · replace h := h.1 hc
    refine j_iload_n 0 dX7_readAtom_33 rfl ?_
    refine j_bipush (v := 9) dX7_readAtom_34 (by decide) ?_
    refine j_bipush (v := 16) dX7_readAtom_36 (by decide) ?_
    refine j_invS (As := [.inl zr1, .inl 9, .inl 16]) dX7_readAtom_38 msRX7_95 mbX11_within rfl rfl (Nat.le_of_ble_eq_true rfl) (Nat.le_of_ble_eq_true rfl) (by omega) (k_X11_within (d := d + 0)  h) ?_
    rintro _ zM5 zN6 ⟨zr4, rfl, h⟩
    refine j_if_eq (tgt := 62) dX7_readAtom_41 (by decide) (fun hc => ?_) (fun hc => ?_)
    · replace h := h.1 hc
      refine j_iload_n 0 dX7_readAtom_62 rfl ?_
      refine j_bipush (v := 40) dX7_readAtom_63 (by decide) ?_
      refine j_icmp_ne (tgt := 74) dX7_readAtom_65 (by decide) (fun hc => ?_) (fun hc => ?_)
      · replace h := h.1 hc
        refine j_iconst (v := 0) dX7_readAtom_74 (by decide) ?_
        exact j_zret dX7_readAtom_75 rfl (Or.inl rfl) ⟨_, rfl, h⟩
      · replace h := h.2 hc
        refine j_iload_n 2 dX7_readAtom_68 rfl ?_
        refine j_bipush (v := 9) dX7_readAtom_69 (by decide) ?_
        refine j_icmp_lt (tgt := 76) dX7_readAtom_71 (by decide) (fun hc => ?_) (fun hc => ?_)
        · replace h := h.1 hc
          refine j_aload_n 1 dX7_readAtom_76 rfl ?_
          refine j_dup dX7_readAtom_77 rfl ?_
          refine j_getI dX7_readAtom_78 fsRX7_38 (h0 7 (by decide)) rfl ?_
          refine j_iconst (v := 1) dX7_readAtom_81 (by decide) ?_
          refine j_iadd dX7_readAtom_82 ?_
          refine j_putI dX7_readAtom_83 fwRX7_38 (h0 7 (by decide)) rfl ?_
          refine j_aload_n 1 dX7_readAtom_86 rfl ?_
          refine j_iload_n 2 dX7_readAtom_87 rfl ?_
          refine j_iconst (v := 1) dX7_readAtom_88 (by decide) ?_
          refine j_iadd dX7_readAtom_89 ?_
          refine j_invV (As := [.inl (a1 + 1)]) dX7_readAtom_90 msRX7_102 mbX7_readSum rfl rfl (Nat.le_of_ble_eq_true rfl) (Nat.le_of_ble_eq_true rfl) (by omega) (h0 7 (by decide)) rfl rfl (hrc2 _ _ _ _ h) ?_
          rintro _ zM8 zN9 ⟨zr7, rfl, h⟩
          refine j_if_eq (tgt := 109) dX7_readAtom_93 (by decide) (fun hc => ?_) (fun hc => ?_)
          · replace h := h.1 hc
            refine j_iconst (v := 0) dX7_readAtom_109 (by decide) ?_
            exact j_zret dX7_readAtom_110 rfl (Or.inl rfl) ⟨_, rfl, h⟩
          · replace h := h.2 hc
            refine j_aload_n 1 dX7_readAtom_96 rfl ?_
            refine j_bipush (v := 41) dX7_readAtom_97 (by decide) ?_
            refine j_invV (As := [.inl 41]) dX7_readAtom_99 msRX7_106 mbX7_accept rfl rfl (Nat.le_of_ble_eq_true rfl) (Nat.le_of_ble_eq_true rfl) (by omega) (h0 7 (by decide)) rfl rfl (k_X7_accept (d := d + 0) h0 h) ?_
            rintro _ zM11 zN12 ⟨zr10, rfl, h⟩
            refine j_if_eq (tgt := 109) dX7_readAtom_102 (by decide) (fun hc => ?_) (fun hc => ?_)
            · replace h := h.1 hc
              refine j_iconst (v := 0) dX7_readAtom_109 (by decide) ?_
              exact j_zret dX7_readAtom_110 rfl (Or.inl rfl) ⟨_, rfl, h⟩
            · replace h := h.2 hc
              refine j_iconst (v := 1) dX7_readAtom_105 (by decide) ?_
              refine j_goto (tgt := 110) dX7_readAtom_106 (by decide) ?_
              exact j_zret dX7_readAtom_110 rfl (Or.inr rfl) ⟨_, rfl, h⟩
        · replace h := h.2 hc
          refine j_iconst (v := 0) dX7_readAtom_74 (by decide) ?_
          exact j_zret dX7_readAtom_75 rfl (Or.inl rfl) ⟨_, rfl, h⟩
    · replace h := h.2 hc
      refine j_aload_n 1 dX7_readAtom_44 rfl ?_
      refine j_iload_n 0 dX7_readAtom_45 rfl ?_
      refine j_ineg dX7_readAtom_46 ?_
      refine j_invV (As := [.inl (-zr1)]) dX7_readAtom_47 msRX7_99 mbX7_emit rfl rfl (Nat.le_of_ble_eq_true rfl) (Nat.le_of_ble_eq_true rfl) (by omega) (h0 7 (by decide)) rfl rfl (k_X7_emit (d := d + 0) h0 h) ?_
      rintro _ zM13 zN14 ⟨rfl, h⟩
      refine j_aload_n 1 dX7_readAtom_50 rfl ?_
      refine j_dup dX7_readAtom_51 rfl ?_
      refine j_getI dX7_readAtom_52 fsRX7_38 (h0 7 (by decide)) rfl ?_
      refine j_iconst (v := 1) dX7_readAtom_55 (by decide) ?_
      refine j_iadd dX7_readAtom_56 ?_
      refine j_putI dX7_readAtom_57 fwRX7_38 (h0 7 (by decide)) rfl ?_
      refine j_iconst (v := 1) dX7_readAtom_60 (by decide) ?_
      exact j_zret dX7_readAtom_61 rfl (Or.inr rfl) ⟨_, rfl, h⟩
  · replace h := h.2 hc
    refine j_aload_n 1 dX7_readAtom_12 rfl ?_
    refine j_iload_n 0 dX7_readAtom_13 rfl ?_
    refine j_sipush (v := 1000) dX7_readAtom_14 (by decide) ?_
    refine j_isub dX7_readAtom_17 ?_
    refine j_invV (As := [.inl (zr1 - 1000)]) dX7_readAtom_18 msRX7_99 mbX7_emit rfl rfl (Nat.le_of_ble_eq_true rfl) (Nat.le_of_ble_eq_true rfl) (by omega) (h0 7 (by decide)) rfl rfl (k_X7_emit (d := d + 0) h0 h) ?_
    rintro _ zM15 zN16 ⟨rfl, h⟩
    refine j_aload_n 1 dX7_readAtom_21 rfl ?_
    refine j_dup dX7_readAtom_22 rfl ?_
    refine j_getI dX7_readAtom_23 fsRX7_38 (h0 7 (by decide)) rfl ?_
    refine j_iconst (v := 1) dX7_readAtom_26 (by decide) ?_
    refine j_iadd dX7_readAtom_27 ?_
    refine j_putI dX7_readAtom_28 fwRX7_38 (h0 7 (by decide)) rfl ?_
    refine j_iconst (v := 1) dX7_readAtom_31 (by decide) ?_
    exact j_zret dX7_readAtom_32 rfl (Or.inr rfl) ⟨_, rfl, h⟩
def w_X7_wordBetween_p8_b (post : Int32 → am_I → am_N → Prop) (zk8 : Int32 → Int32 → Int32 → Int32 → Int32 → am_I → am_N → Prop) (l1 : Int32) (l2 : Int32) (l3 : Int32) (l4 : Int32) (l5 : Int32) (M : am_I) (N : am_N) : Prop :=
  w_J0_length_8abf5 1 M N (fun zr1 zM2 zN3 => ((zr1 ≤ l5 → post (-1) zM2 zN3) ∧ (¬ zr1 ≤ l5 → w_J0_charAt_5068e 1 l5 zM2 zN3 (fun zr4 zM5 zN6 => ((¬ zr4 = 32 → ((l4 < 0 → zk8 l1 l2 l3 (-1) (l5 + 1) zM5 zN6) ∧ (¬ l4 < 0 → ((l2 ≤ (l1 + l4) → zk8 l1 l2 l3 (-1) (l5 + 1) zM5 zN6) ∧ (¬ l2 ≤ (l1 + l4) → vp_in (l1 + l4) 500 ∧ ((¬ (zM5 (0, 0, 8) (l1 + l4).toNatClampNeg) = zr4 → zk8 l1 l2 l3 (-1) (l5 + 1) zM5 zN6) ∧ ((zM5 (0, 0, 8) (l1 + l4).toNatClampNeg) = zr4 → zk8 l1 l2 l3 (l4 + 1) (l5 + 1) zM5 zN6))))))) ∧ (zr4 = 32 → ((¬ l4 = (l2 - l1) → zk8 l1 l2 (l3 + 1) 0 (l5 + 1) zM5 zN6) ∧ (l4 = (l2 - l1) → post l3 zM5 zN6))))))))
noncomputable def w_X7_wordBetween_p8 (post : Int32 → am_I → am_N → Prop) (n : Nat) : Int32 → Int32 → Int32 → Int32 → Int32 → am_I → am_N → Prop :=
  Nat.rec (motive := fun _ => Int32 → Int32 → Int32 → Int32 → Int32 → am_I → am_N → Prop) (fun _ _ _ _ _ _ _ => False) (fun _ zk => w_X7_wordBetween_p8_b post zk) n
theorem w_X7_wordBetween_p8_s (post : Int32 → am_I → am_N → Prop) (n : Nat) (l1 : Int32) (l2 : Int32) (l3 : Int32) (l4 : Int32) (l5 : Int32) (M : am_I) (N : am_N) : w_X7_wordBetween_p8 post (n + 1) l1 l2 l3 l4 l5 M N = w_X7_wordBetween_p8_b post (w_X7_wordBetween_p8 post n) l1 l2 l3 l4 l5 M N := rfl
set_option maxRecDepth 10000 in
theorem k_X7_wordBetween_p8 {d : Nat} {dm : List am_C} (h0 : am_d0 dm) {post : Int32 → am_I → am_N → Prop} : ∀ (n : Nat) (l1 : Int32) (l2 : Int32) (l3 : Int32) (l4 : Int32) (l5 : Int32) (M : am_I) (N : am_N), w_X7_wordBetween_p8 post n l1 l2 l3 l4 l5 M N → jg (d + 6) mX7_wordBetween dm 8 [(0, .inr (.inr (0, 0, 7))), (1, .inl l1), (2, .inl l2), (3, .inl l3), (4, .inl l4), (5, .inl l5)] [] M N (am_pi post) := by
  intro n
  induction n with
  | zero => intro l1 l2 l3 l4 l5 M N h; exact h.elim
  | succ n zih =>
    intro l1 l2 l3 l4 l5 M N h
    replace h : w_X7_wordBetween_p8_b post (w_X7_wordBetween_p8 post n) l1 l2 l3 l4 l5 M N := h
    refine j_iload 5 dX7_wordBetween_8 rfl ?_
    refine j_ldc1 dX7_wordBetween_10 rfl ?_
    refine j_invT (As := []) (by decide) dX7_wordBetween_12 msRX7_88 rfl mbJ0_length_8abf5 rfl rfl (Nat.le_of_ble_eq_true rfl) (Nat.le_of_ble_eq_true rfl) (by omega) (k_J0_length_8abf5 (d := d + 3) (by decide) h) ?_
    rintro _ zM2 zN3 ⟨zr1, rfl, h⟩
    refine j_icmp_ge (tgt := 95) dX7_wordBetween_15 (by decide) (fun hc => ?_) (fun hc => ?_)
    · replace h := h.1 hc
      refine j_iconst (v := (-1)) dX7_wordBetween_95 (by decide) ?_
      exact j_iret dX7_wordBetween_96 rfl ⟨_, rfl, h⟩
    · replace h := h.2 hc
      refine j_ldc1 dX7_wordBetween_18 rfl ?_
      refine j_iload 5 dX7_wordBetween_20 rfl ?_
      refine j_invT (As := [.inl l5]) (by decide) dX7_wordBetween_22 msRX7_91 rfl mbJ0_charAt_5068e rfl rfl (Nat.le_of_ble_eq_true rfl) (Nat.le_of_ble_eq_true rfl) (by omega) (k_J0_charAt_5068e (d := d + 0) (by decide) h) ?_
      rintro _ zM5 zN6 ⟨zr4, rfl, h⟩
      refine j_istore dX7_wordBetween_25 (by decide) rfl ?_
      refine j_iload 0 dX7_wordBetween_27 rfl ?_
      refine j_bipush (v := 32) dX7_wordBetween_29 (by decide) ?_
      refine j_icmp_ne (tgt := 53) dX7_wordBetween_31 (by decide) (fun hc => ?_) (fun hc => ?_)
      · replace h := h.1 hc
        refine j_iload 5 dX7_wordBetween_53 rfl ?_
        refine j_if_lt (tgt := 86) dX7_wordBetween_55 (by decide) (fun hc => ?_) (fun hc => ?_)
        · replace h := h.1 hc
          refine j_iconst (v := (-1)) dX7_wordBetween_86 (by decide) ?_
          refine j_istore dX7_wordBetween_87 (by decide) rfl ?_
          refine j_iinc 6 dX7_wordBetween_89 rfl rfl (by decide) rfl ?_
          refine j_goto (tgt := 8) dX7_wordBetween_92 (by decide) ?_
          refine j_sub [3, 4, 5, 6, 1, 0] rfl ?_
          exact zih _ _ _ _ _ _ _ h
        · replace h := h.2 hc
          refine j_iload_n 2 dX7_wordBetween_58 rfl ?_
          refine j_iload 5 dX7_wordBetween_59 rfl ?_
          refine j_iadd dX7_wordBetween_61 ?_
          refine j_iload_n 3 dX7_wordBetween_62 rfl ?_
          refine j_icmp_ge (tgt := 86) dX7_wordBetween_63 (by decide) (fun hc => ?_) (fun hc => ?_)
          · replace h := h.1 hc
            refine j_iconst (v := (-1)) dX7_wordBetween_86 (by decide) ?_
            refine j_istore dX7_wordBetween_87 (by decide) rfl ?_
            refine j_iinc 6 dX7_wordBetween_89 rfl rfl (by decide) rfl ?_
            refine j_goto (tgt := 8) dX7_wordBetween_92 (by decide) ?_
            refine j_sub [3, 4, 5, 6, 1, 0] rfl ?_
            exact zih _ _ _ _ _ _ _ h
          · replace h := h.2 hc
            refine j_aload_n 1 dX7_wordBetween_66 rfl ?_
            refine j_getR (b := (0, 0, 8)) dX7_wordBetween_67 fsRX7_11 (h0 7 (by decide)) rfl rfl ?_
            refine j_iload_n 2 dX7_wordBetween_70 rfl ?_
            refine j_iload 5 dX7_wordBetween_71 rfl ?_
            refine j_iadd dX7_wordBetween_73 ?_
            obtain ⟨hq, h⟩ := h
            refine j_iald dX7_wordBetween_74 (h0 8 (by decide)) rfl hq ?_
            refine j_iload 0 dX7_wordBetween_75 rfl ?_
            refine j_icmp_ne (tgt := 86) dX7_wordBetween_77 (by decide) (fun hc => ?_) (fun hc => ?_)
            · replace h := h.1 hc
              refine j_iconst (v := (-1)) dX7_wordBetween_86 (by decide) ?_
              refine j_istore dX7_wordBetween_87 (by decide) rfl ?_
              refine j_iinc 6 dX7_wordBetween_89 rfl rfl (by decide) rfl ?_
              refine j_goto (tgt := 8) dX7_wordBetween_92 (by decide) ?_
              refine j_sub [3, 4, 5, 6, 1, 0] rfl ?_
              exact zih _ _ _ _ _ _ _ h
            · replace h := h.2 hc
              refine j_iinc 5 dX7_wordBetween_80 rfl rfl (by decide) rfl ?_
              refine j_goto (tgt := 89) dX7_wordBetween_83 (by decide) ?_
              refine j_iinc 6 dX7_wordBetween_89 rfl rfl (by decide) rfl ?_
              refine j_goto (tgt := 8) dX7_wordBetween_92 (by decide) ?_
              refine j_sub [3, 4, 5, 6, 1, 0] rfl ?_
              exact zih _ _ _ _ _ _ _ h
      · replace h := h.2 hc
        refine j_iload 5 dX7_wordBetween_34 rfl ?_
        refine j_iload_n 3 dX7_wordBetween_36 rfl ?_
        refine j_iload_n 2 dX7_wordBetween_37 rfl ?_
        refine j_isub dX7_wordBetween_38 ?_
        refine j_icmp_ne (tgt := 44) dX7_wordBetween_39 (by decide) (fun hc => ?_) (fun hc => ?_)
        · replace h := h.1 hc
          refine j_iinc 4 dX7_wordBetween_44 rfl rfl (by decide) rfl ?_
          refine j_iconst (v := 0) dX7_wordBetween_47 (by decide) ?_
          refine j_istore dX7_wordBetween_48 (by decide) rfl ?_
          refine j_goto (tgt := 89) dX7_wordBetween_50 (by decide) ?_
          refine j_iinc 6 dX7_wordBetween_89 rfl rfl (by decide) rfl ?_
          refine j_goto (tgt := 8) dX7_wordBetween_92 (by decide) ?_
          refine j_sub [4, 5, 6, 2, 1, 0] rfl ?_
          exact zih _ _ _ _ _ _ _ h
        · replace h := h.2 hc
          refine j_iload_n 4 dX7_wordBetween_42 rfl ?_
          exact j_iret dX7_wordBetween_43 rfl ⟨_, rfl, h⟩
def w_X7_wordBetween (a1 : Int32) (a2 : Int32) (M : am_I) (N : am_N) (post : Int32 → am_I → am_N → Prop) : Prop :=
  ∃ n, w_X7_wordBetween_p8 post n a1 a2 1 0 0 M N
set_option maxRecDepth 10000 in
theorem k_X7_wordBetween {d : Nat} {dm : List am_C} (h0 : am_d0 dm) {a1 : Int32} {a2 : Int32} {M : am_I} {N : am_N} {post : Int32 → am_I → am_N → Prop} (h : w_X7_wordBetween a1 a2 M N post) : jg (d + 6) mX7_wordBetween dm 0 [(0, .inr (.inr (0, 0, 7))), (1, .inl a1), (2, .inl a2)] [] M N (am_pi post) := by
  refine j_iconst (v := 1) dX7_wordBetween_0 (by decide) ?_
  refine j_istore_n dX7_wordBetween_1 (by decide) rfl ?_
  refine j_iconst (v := 0) dX7_wordBetween_2 (by decide) ?_
  refine j_istore dX7_wordBetween_3 (by decide) rfl ?_
  refine j_iconst (v := 0) dX7_wordBetween_5 (by decide) ?_
  refine j_istore dX7_wordBetween_6 (by decide) rfl ?_
  refine j_sub [3, 4, 5, 2, 1, 0] rfl ?_
  obtain ⟨n, h⟩ := h
  exact k_X7_wordBetween_p8 h0 n _ _ _ _ _ _ _ h
def w_X7_tokenFrom_p60 (post : Int32 → am_I → am_N → Prop) (l1 : Int32) (l3 : Int32) (l4 : Int32) (M : am_I) (N : am_N) : Prop :=
  ((¬ l3 = 1 → w_X7_numberBetween l1 l4 M N (fun zr1 zM2 zN3 => post zr1 zM2 zN3)) ∧ (l3 = 1 → w_X7_wordBetween l1 l4 M N (fun zr4 zM5 zN6 => post zr4 zM5 zN6)))
set_option maxRecDepth 10000 in
theorem k_X7_tokenFrom_p60 {d : Nat} {dm : List am_C} (h0 : am_d0 dm) {post : Int32 → am_I → am_N → Prop} (l1 : Int32) (l3 : Int32) (l4 : Int32) (M : am_I) (N : am_N) (h : w_X7_tokenFrom_p60 post l1 l3 l4 M N) : jg (d + 7) mX7_tokenFrom dm 60 [(0, .inr (.inr (0, 0, 7))), (1, .inl l1), (3, .inl l3), (4, .inl l4)] [] M N (am_pi post) := by
  refine j_iload_n 2 dX7_tokenFrom_60 rfl ?_
  refine j_iconst (v := 1) dX7_tokenFrom_61 (by decide) ?_
  refine j_icmp_ne (tgt := 75) dX7_tokenFrom_62 (by decide) (fun hc => ?_) (fun hc => ?_)
  · replace h := h.1 hc
    refine j_aload_n 0 dX7_tokenFrom_75 rfl ?_
    refine j_iload_n 1 dX7_tokenFrom_76 rfl ?_
    refine j_iload 3 dX7_tokenFrom_77 rfl ?_
    refine j_invV (As := [.inl l1, .inl l4]) dX7_tokenFrom_79 msRX7_83 mbX7_numberBetween rfl rfl (Nat.le_of_ble_eq_true rfl) (Nat.le_of_ble_eq_true rfl) (by omega) (h0 7 (by decide)) rfl rfl (k_X7_numberBetween (d := d + 5) h0 h) ?_
    rintro _ zM2 zN3 ⟨zr1, rfl, h⟩
    exact j_iret dX7_tokenFrom_82 rfl ⟨_, rfl, h⟩
  · replace h := h.2 hc
    refine j_aload_n 0 dX7_tokenFrom_65 rfl ?_
    refine j_iload_n 1 dX7_tokenFrom_66 rfl ?_
    refine j_iload 3 dX7_tokenFrom_67 rfl ?_
    refine j_invV (As := [.inl l1, .inl l4]) dX7_tokenFrom_69 msRX7_80 mbX7_wordBetween rfl rfl (Nat.le_of_ble_eq_true rfl) (Nat.le_of_ble_eq_true rfl) (by omega) (h0 7 (by decide)) rfl rfl (k_X7_wordBetween (d := d + 0) h0 h) ?_
    rintro _ zM5 zN6 ⟨zr4, rfl, h⟩
    refine j_goto (tgt := 82) dX7_tokenFrom_72 (by decide) ?_
    exact j_iret dX7_tokenFrom_82 rfl ⟨_, rfl, h⟩
def w_X7_tokenFrom_p34_b (post : Int32 → am_I → am_N → Prop) (zk34 : Int32 → Int32 → Int32 → Int32 → am_I → am_N → Prop) (l1 : Int32) (l2 : Int32) (l3 : Int32) (l4 : Int32) (M : am_I) (N : am_N) : Prop :=
  ((l2 ≤ l4 → w_X7_tokenFrom_p60 post l1 l3 l4 M N) ∧ (¬ l2 ≤ l4 → vp_in l4 500 ∧ w_X7_groupOf (M (0, 0, 8) l4.toNatClampNeg) M N (fun zr1 zM2 zN3 => ((¬ zr1 = l3 → w_X7_tokenFrom_p60 post l1 l3 l4 zM2 zN3) ∧ (zr1 = l3 → zk34 l1 l2 l3 (l4 + 1) zM2 zN3)))))
noncomputable def w_X7_tokenFrom_p34 (post : Int32 → am_I → am_N → Prop) (n : Nat) : Int32 → Int32 → Int32 → Int32 → am_I → am_N → Prop :=
  Nat.rec (motive := fun _ => Int32 → Int32 → Int32 → Int32 → am_I → am_N → Prop) (fun _ _ _ _ _ _ => False) (fun _ zk => w_X7_tokenFrom_p34_b post zk) n
theorem w_X7_tokenFrom_p34_s (post : Int32 → am_I → am_N → Prop) (n : Nat) (l1 : Int32) (l2 : Int32) (l3 : Int32) (l4 : Int32) (M : am_I) (N : am_N) : w_X7_tokenFrom_p34 post (n + 1) l1 l2 l3 l4 M N = w_X7_tokenFrom_p34_b post (w_X7_tokenFrom_p34 post n) l1 l2 l3 l4 M N := rfl
set_option maxRecDepth 10000 in
theorem k_X7_tokenFrom_p34 {d : Nat} {dm : List am_C} (h0 : am_d0 dm) {post : Int32 → am_I → am_N → Prop} : ∀ (n : Nat) (l1 : Int32) (l2 : Int32) (l3 : Int32) (l4 : Int32) (M : am_I) (N : am_N), w_X7_tokenFrom_p34 post n l1 l2 l3 l4 M N → jg (d + 7) mX7_tokenFrom dm 34 [(0, .inr (.inr (0, 0, 7))), (1, .inl l1), (2, .inl l2), (3, .inl l3), (4, .inl l4)] [] M N (am_pi post) := by
  intro n
  induction n with
  | zero => intro l1 l2 l3 l4 M N h; exact h.elim
  | succ n zih =>
    intro l1 l2 l3 l4 M N h
    replace h : w_X7_tokenFrom_p34_b post (w_X7_tokenFrom_p34 post n) l1 l2 l3 l4 M N := h
    refine j_iload 4 dX7_tokenFrom_34 rfl ?_
    refine j_iload_n 2 dX7_tokenFrom_36 rfl ?_
    refine j_icmp_ge (tgt := 60) dX7_tokenFrom_37 (by decide) (fun hc => ?_) (fun hc => ?_)
    · replace h := h.1 hc
      refine j_sub [0, 1, 3, 4] rfl ?_
      exact k_X7_tokenFrom_p60 h0 _ _ _ _ _ h
    · replace h := h.2 hc
      refine j_aload_n 0 dX7_tokenFrom_40 rfl ?_
      refine j_getR (b := (0, 0, 8)) dX7_tokenFrom_41 fsRX7_11 (h0 7 (by decide)) rfl rfl ?_
      refine j_iload 4 dX7_tokenFrom_44 rfl ?_
      obtain ⟨hq, h⟩ := h
      refine j_iald dX7_tokenFrom_46 (h0 8 (by decide)) rfl hq ?_
      refine j_invS (As := [.inl (M (0, 0, 8) l4.toNatClampNeg)]) dX7_tokenFrom_47 msRX7_61 mbX7_groupOf rfl rfl (Nat.le_of_ble_eq_true rfl) (Nat.le_of_ble_eq_true rfl) (by omega) (k_X7_groupOf (d := d + 5)  h) ?_
      rintro _ zM2 zN3 ⟨zr1, rfl, h⟩
      refine j_iload_n 3 dX7_tokenFrom_50 rfl ?_
      refine j_icmp_ne (tgt := 60) dX7_tokenFrom_51 (by decide) (fun hc => ?_) (fun hc => ?_)
      · replace h := h.1 hc
        refine j_sub [0, 1, 3, 4] rfl ?_
        exact k_X7_tokenFrom_p60 h0 _ _ _ _ _ h
      · replace h := h.2 hc
        refine j_iinc 4 dX7_tokenFrom_54 rfl rfl (by decide) rfl ?_
        refine j_goto (tgt := 34) dX7_tokenFrom_57 (by decide) ?_
        refine j_sub [1, 2, 3, 4, 0] rfl ?_
        exact zih _ _ _ _ _ _ h
def w_X7_tokenFrom (a1 : Int32) (a2 : Int32) (a3 : Int32) (M : am_I) (N : am_N) (post : Int32 → am_I → am_N → Prop) : Prop :=
  ((¬ a3 = 3 → ∃ n, w_X7_tokenFrom_p34 post n a1 a2 a3 a1 M N) ∧ (a3 = 3 → vp_in a1 500 ∧ w_J0_indexOf_0f7a4 0 (((M (0, 0, 8) a1.toNatClampNeg).toUInt32 % 65536).toInt32) M N (fun zr1 zM2 zN3 => ((zr1 < 0 → post (-1) zM2 zN3) ∧ (¬ zr1 < 0 → vp_in a1 500 ∧ post (zM2 (0, 0, 8) a1.toNatClampNeg) zM2 zN3)))))
set_option maxRecDepth 10000 in
theorem k_X7_tokenFrom {d : Nat} {dm : List am_C} (h0 : am_d0 dm) {a1 : Int32} {a2 : Int32} {a3 : Int32} {M : am_I} {N : am_N} {post : Int32 → am_I → am_N → Prop} (h : w_X7_tokenFrom a1 a2 a3 M N post) : jg (d + 7) mX7_tokenFrom dm 0 [(0, .inr (.inr (0, 0, 7))), (1, .inl a1), (2, .inl a2), (3, .inl a3)] [] M N (am_pi post) := by
  refine j_iload_n 3 dX7_tokenFrom_0 rfl ?_
  refine j_iconst (v := 3) dX7_tokenFrom_1 (by decide) ?_
  refine j_icmp_ne (tgt := 31) dX7_tokenFrom_2 (by decide) (fun hc => ?_) (fun hc => ?_)
  · replace h := h.1 hc
    refine j_iload_n 1 dX7_tokenFrom_31 rfl ?_
    refine j_istore dX7_tokenFrom_32 (by decide) rfl ?_
    refine j_sub [1, 2, 3, 4, 0] rfl ?_
    obtain ⟨n, h⟩ := h
    exact k_X7_tokenFrom_p34 h0 n _ _ _ _ _ _ h
  · replace h := h.2 hc
    refine j_ldc0 dX7_tokenFrom_5 rfl ?_
    refine j_aload_n 0 dX7_tokenFrom_7 rfl ?_
    refine j_getR (b := (0, 0, 8)) dX7_tokenFrom_8 fsRX7_11 (h0 7 (by decide)) rfl rfl ?_
    refine j_iload_n 1 dX7_tokenFrom_11 rfl ?_
    obtain ⟨hq, h⟩ := h
    refine j_iald dX7_tokenFrom_12 (h0 8 (by decide)) rfl hq ?_
    refine j_i2c dX7_tokenFrom_13 ?_
    refine j_invT (As := [.inl (((M (0, 0, 8) a1.toNatClampNeg).toUInt32 % 65536).toInt32)]) (by decide) dX7_tokenFrom_14 msRX7_75 rfl mbJ0_indexOf_0f7a4 rfl rfl (Nat.le_of_ble_eq_true rfl) (Nat.le_of_ble_eq_true rfl) (by omega) (k_J0_indexOf_0f7a4 (d := d + 2) (by decide) h) ?_
    rintro _ zM2 zN3 ⟨zr1, rfl, h⟩
    refine j_if_lt (tgt := 29) dX7_tokenFrom_17 (by decide) (fun hc => ?_) (fun hc => ?_)
    · replace h := h.1 hc
      refine j_iconst (v := (-1)) dX7_tokenFrom_29 (by decide) ?_
      exact j_iret dX7_tokenFrom_30 rfl ⟨_, rfl, h⟩
    · replace h := h.2 hc
      refine j_aload_n 0 dX7_tokenFrom_20 rfl ?_
      refine j_getR (b := (0, 0, 8)) dX7_tokenFrom_21 fsRX7_11 (h0 7 (by decide)) rfl rfl ?_
      refine j_iload_n 1 dX7_tokenFrom_24 rfl ?_
      obtain ⟨hq, h⟩ := h
      refine j_iald dX7_tokenFrom_25 (h0 8 (by decide)) rfl hq ?_
      refine j_goto (tgt := 30) dX7_tokenFrom_26 (by decide) ?_
      exact j_iret dX7_tokenFrom_30 rfl ⟨_, rfl, h⟩
