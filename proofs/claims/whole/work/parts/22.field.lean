/-! ===== methods: 22.field ===== -/
theorem dX11_water_0 : decode mX11_water.2.1 0 = .ok (.iload_n 1, 1) := by decide +kernel
theorem dX11_water_1 : decode mX11_water.2.1 1 = .ok (.tableswitch 60 0 2 #[27, 38, 49], 27) := by decide +kernel
theorem dX11_water_28 : decode mX11_water.2.1 28 = .ok (.aload_n 0, 1) := by decide +kernel
theorem dX11_water_29 : decode mX11_water.2.1 29 = .ok (.getfield 28, 3) := by decide +kernel
theorem dX11_water_32 : decode mX11_water.2.1 32 = .ok (.getfield 177, 3) := by decide +kernel
theorem dX11_water_35 : decode mX11_water.2.1 35 = .ok (.invokevirtual 200, 3) := by decide +kernel
theorem dX11_water_38 : decode mX11_water.2.1 38 = .ok (.lreturn, 1) := by decide +kernel
theorem dX11_water_39 : decode mX11_water.2.1 39 = .ok (.aload_n 0, 1) := by decide +kernel
theorem dX11_water_40 : decode mX11_water.2.1 40 = .ok (.getfield 28, 3) := by decide +kernel
theorem dX11_water_43 : decode mX11_water.2.1 43 = .ok (.getfield 177, 3) := by decide +kernel
theorem dX11_water_46 : decode mX11_water.2.1 46 = .ok (.getfield 206, 3) := by decide +kernel
theorem dX11_water_49 : decode mX11_water.2.1 49 = .ok (.lreturn, 1) := by decide +kernel
theorem dX11_water_50 : decode mX11_water.2.1 50 = .ok (.aload_n 0, 1) := by decide +kernel
theorem dX11_water_51 : decode mX11_water.2.1 51 = .ok (.getfield 28, 3) := by decide +kernel
theorem dX11_water_54 : decode mX11_water.2.1 54 = .ok (.getfield 177, 3) := by decide +kernel
theorem dX11_water_57 : decode mX11_water.2.1 57 = .ok (.getfield 210, 3) := by decide +kernel
theorem dX11_water_60 : decode mX11_water.2.1 60 = .ok (.lreturn, 1) := by decide +kernel
theorem dX11_water_61 : decode mX11_water.2.1 61 = .ok (.ldc2_w 213, 3) := by decide +kernel
theorem dX11_water_64 : decode mX11_water.2.1 64 = .ok (.lreturn, 1) := by decide +kernel
theorem dX11_feed_0 : decode mX11_feed.2.1 0 = .ok (.aload_n 0, 1) := by decide +kernel
theorem dX11_feed_1 : decode mX11_feed.2.1 1 = .ok (.getfield 38, 3) := by decide +kernel
theorem dX11_feed_4 : decode mX11_feed.2.1 4 = .ok (.invokevirtual 249, 3) := by decide +kernel
theorem dX11_feed_7 : decode mX11_feed.2.1 7 = .ok (.ifCond .ne 5, 3) := by decide +kernel
theorem dX11_feed_10 : decode mX11_feed.2.1 10 = .ok (.iconst (-1), 1) := by decide +kernel
theorem dX11_feed_11 : decode mX11_feed.2.1 11 = .ok (.ireturn, 1) := by decide +kernel
theorem dX11_feed_12 : decode mX11_feed.2.1 12 = .ok (.aload_n 0, 1) := by decide +kernel
theorem dX11_feed_13 : decode mX11_feed.2.1 13 = .ok (.getfield 38, 3) := by decide +kernel
theorem dX11_feed_16 : decode mX11_feed.2.1 16 = .ok (.iload_n 1, 1) := by decide +kernel
theorem dX11_feed_17 : decode mX11_feed.2.1 17 = .ok (.invokevirtual 252, 3) := by decide +kernel
theorem dX11_feed_20 : decode mX11_feed.2.1 20 = .ok (.aload_n 0, 1) := by decide +kernel
theorem dX11_feed_21 : decode mX11_feed.2.1 21 = .ok (.getfield 38, 3) := by decide +kernel
theorem dX11_feed_24 : decode mX11_feed.2.1 24 = .ok (.iload_n 2, 1) := by decide +kernel
theorem dX11_feed_25 : decode mX11_feed.2.1 25 = .ok (.invokevirtual 252, 3) := by decide +kernel
theorem dX11_feed_28 : decode mX11_feed.2.1 28 = .ok (.aload_n 0, 1) := by decide +kernel
theorem dX11_feed_29 : decode mX11_feed.2.1 29 = .ok (.getfield 38, 3) := by decide +kernel
theorem dX11_feed_32 : decode mX11_feed.2.1 32 = .ok (.iload_n 3, 1) := by decide +kernel
theorem dX11_feed_33 : decode mX11_feed.2.1 33 = .ok (.invokevirtual 252, 3) := by decide +kernel
theorem dX11_feed_36 : decode mX11_feed.2.1 36 = .ok (.aload_n 0, 1) := by decide +kernel
theorem dX11_feed_37 : decode mX11_feed.2.1 37 = .ok (.getfield 38, 3) := by decide +kernel
theorem dX11_feed_40 : decode mX11_feed.2.1 40 = .ok (.iload 4, 2) := by decide +kernel
theorem dX11_feed_42 : decode mX11_feed.2.1 42 = .ok (.invokevirtual 252, 3) := by decide +kernel
theorem dX11_feed_45 : decode mX11_feed.2.1 45 = .ok (.aload_n 0, 1) := by decide +kernel
theorem dX11_feed_46 : decode mX11_feed.2.1 46 = .ok (.getfield 38, 3) := by decide +kernel
theorem dX11_feed_49 : decode mX11_feed.2.1 49 = .ok (.iload 5, 2) := by decide +kernel
theorem dX11_feed_51 : decode mX11_feed.2.1 51 = .ok (.invokevirtual 252, 3) := by decide +kernel
theorem dX11_feed_54 : decode mX11_feed.2.1 54 = .ok (.aload_n 0, 1) := by decide +kernel
theorem dX11_feed_55 : decode mX11_feed.2.1 55 = .ok (.getfield 38, 3) := by decide +kernel
theorem dX11_feed_58 : decode mX11_feed.2.1 58 = .ok (.getfield 255, 3) := by decide +kernel
theorem dX11_feed_61 : decode mX11_feed.2.1 61 = .ok (.ireturn, 1) := by decide +kernel
theorem dX11_fault_0 : decode mX11_fault.2.1 0 = .ok (.aload_n 0, 1) := by decide +kernel
theorem dX11_fault_1 : decode mX11_fault.2.1 1 = .ok (.getfield 64, 3) := by decide +kernel
theorem dX11_fault_4 : decode mX11_fault.2.1 4 = .ok (.ireturn, 1) := by decide +kernel
theorem dX11_canLeaveOut_0 : decode mX11_canLeaveOut.2.1 0 = .ok (.iload_n 1, 1) := by decide +kernel
theorem dX11_canLeaveOut_1 : decode mX11_canLeaveOut.2.1 1 = .ok (.tableswitch 63 0 2 #[27, 39, 51], 27) := by decide +kernel
theorem dX11_canLeaveOut_28 : decode mX11_canLeaveOut.2.1 28 = .ok (.aload_n 0, 1) := by decide +kernel
theorem dX11_canLeaveOut_29 : decode mX11_canLeaveOut.2.1 29 = .ok (.getfield 10, 3) := by decide +kernel
theorem dX11_canLeaveOut_32 : decode mX11_canLeaveOut.2.1 32 = .ok (.getfield 86, 3) := by decide +kernel
theorem dX11_canLeaveOut_35 : decode mX11_canLeaveOut.2.1 35 = .ok (.iload_n 2, 1) := by decide +kernel
theorem dX11_canLeaveOut_36 : decode mX11_canLeaveOut.2.1 36 = .ok (.invokevirtual 107, 3) := by decide +kernel
theorem dX11_canLeaveOut_39 : decode mX11_canLeaveOut.2.1 39 = .ok (.ireturn, 1) := by decide +kernel
theorem dX11_canLeaveOut_40 : decode mX11_canLeaveOut.2.1 40 = .ok (.aload_n 0, 1) := by decide +kernel
theorem dX11_canLeaveOut_41 : decode mX11_canLeaveOut.2.1 41 = .ok (.getfield 10, 3) := by decide +kernel
theorem dX11_canLeaveOut_44 : decode mX11_canLeaveOut.2.1 44 = .ok (.getfield 104, 3) := by decide +kernel
theorem dX11_canLeaveOut_47 : decode mX11_canLeaveOut.2.1 47 = .ok (.iload_n 2, 1) := by decide +kernel
theorem dX11_canLeaveOut_48 : decode mX11_canLeaveOut.2.1 48 = .ok (.invokevirtual 107, 3) := by decide +kernel
theorem dX11_canLeaveOut_51 : decode mX11_canLeaveOut.2.1 51 = .ok (.ireturn, 1) := by decide +kernel
theorem dX11_canLeaveOut_52 : decode mX11_canLeaveOut.2.1 52 = .ok (.aload_n 0, 1) := by decide +kernel
theorem dX11_canLeaveOut_53 : decode mX11_canLeaveOut.2.1 53 = .ok (.getfield 10, 3) := by decide +kernel
theorem dX11_canLeaveOut_56 : decode mX11_canLeaveOut.2.1 56 = .ok (.getfield 164, 3) := by decide +kernel
theorem dX11_canLeaveOut_59 : decode mX11_canLeaveOut.2.1 59 = .ok (.iload_n 2, 1) := by decide +kernel
theorem dX11_canLeaveOut_60 : decode mX11_canLeaveOut.2.1 60 = .ok (.invokevirtual 107, 3) := by decide +kernel
theorem dX11_canLeaveOut_63 : decode mX11_canLeaveOut.2.1 63 = .ok (.ireturn, 1) := by decide +kernel
theorem dX11_canLeaveOut_64 : decode mX11_canLeaveOut.2.1 64 = .ok (.iconst 0, 1) := by decide +kernel
theorem dX11_canLeaveOut_65 : decode mX11_canLeaveOut.2.1 65 = .ok (.ireturn, 1) := by decide +kernel
theorem dX11_cell_0 : decode mX11_cell.2.1 0 = .ok (.iload_n 1, 1) := by decide +kernel
theorem dX11_cell_1 : decode mX11_cell.2.1 1 = .ok (.invokestatic 67, 3) := by decide +kernel
theorem dX11_cell_4 : decode mX11_cell.2.1 4 = .ok (.ifCond .eq 13, 3) := by decide +kernel
theorem dX11_cell_7 : decode mX11_cell.2.1 7 = .ok (.iload_n 2, 1) := by decide +kernel
theorem dX11_cell_8 : decode mX11_cell.2.1 8 = .ok (.iconst 0, 1) := by decide +kernel
theorem dX11_cell_9 : decode mX11_cell.2.1 9 = .ok (.bipush 10, 2) := by decide +kernel
theorem dX11_cell_11 : decode mX11_cell.2.1 11 = .ok (.invokestatic 71, 3) := by decide +kernel
theorem dX11_cell_14 : decode mX11_cell.2.1 14 = .ok (.ifCond .ne 5, 3) := by decide +kernel
theorem dX11_cell_17 : decode mX11_cell.2.1 17 = .ok (.iconst (-1), 1) := by decide +kernel
theorem dX11_cell_18 : decode mX11_cell.2.1 18 = .ok (.ireturn, 1) := by decide +kernel
theorem dX11_cell_19 : decode mX11_cell.2.1 19 = .ok (.aload_n 0, 1) := by decide +kernel
theorem dX11_cell_20 : decode mX11_cell.2.1 20 = .ok (.getfield 28, 3) := by decide +kernel
theorem dX11_cell_23 : decode mX11_cell.2.1 23 = .ok (.iload_n 1, 1) := by decide +kernel
theorem dX11_cell_24 : decode mX11_cell.2.1 24 = .ok (.iload_n 2, 1) := by decide +kernel
theorem dX11_cell_25 : decode mX11_cell.2.1 25 = .ok (.invokevirtual 154, 3) := by decide +kernel
theorem dX11_cell_28 : decode mX11_cell.2.1 28 = .ok (.ireturn, 1) := by decide +kernel
theorem dX11_share_0 : decode mX11_share.2.1 0 = .ok (.aload_n 0, 1) := by decide +kernel
theorem dX11_share_1 : decode mX11_share.2.1 1 = .ok (.getfield 28, 3) := by decide +kernel
theorem dX11_share_4 : decode mX11_share.2.1 4 = .ok (.getfield 132, 3) := by decide +kernel
theorem dX11_share_7 : decode mX11_share.2.1 7 = .ok (.iload_n 1, 1) := by decide +kernel
theorem dX11_share_8 : decode mX11_share.2.1 8 = .ok (.invokevirtual 136, 3) := by decide +kernel
theorem dX11_share_11 : decode mX11_share.2.1 11 = .ok (.ifCond .eq 17, 3) := by decide +kernel
theorem dX11_share_14 : decode mX11_share.2.1 14 = .ok (.aload_n 0, 1) := by decide +kernel
theorem dX11_share_15 : decode mX11_share.2.1 15 = .ok (.getfield 10, 3) := by decide +kernel
theorem dX11_share_18 : decode mX11_share.2.1 18 = .ok (.getfield 129, 3) := by decide +kernel
theorem dX11_share_21 : decode mX11_share.2.1 21 = .ok (.iload_n 2, 1) := by decide +kernel
theorem dX11_share_22 : decode mX11_share.2.1 22 = .ok (.invokevirtual 107, 3) := by decide +kernel
theorem dX11_share_25 : decode mX11_share.2.1 25 = .ok (.ifCond .ne 5, 3) := by decide +kernel
theorem dX11_share_28 : decode mX11_share.2.1 28 = .ok (.iconst (-1), 1) := by decide +kernel
theorem dX11_share_29 : decode mX11_share.2.1 29 = .ok (.ireturn, 1) := by decide +kernel
theorem dX11_share_30 : decode mX11_share.2.1 30 = .ok (.aload_n 0, 1) := by decide +kernel
theorem dX11_share_31 : decode mX11_share.2.1 31 = .ok (.getfield 28, 3) := by decide +kernel
theorem dX11_share_34 : decode mX11_share.2.1 34 = .ok (.getfield 132, 3) := by decide +kernel
theorem dX11_share_37 : decode mX11_share.2.1 37 = .ok (.iload_n 1, 1) := by decide +kernel
theorem dX11_share_38 : decode mX11_share.2.1 38 = .ok (.iload_n 2, 1) := by decide +kernel
theorem dX11_share_39 : decode mX11_share.2.1 39 = .ok (.invokevirtual 158, 3) := by decide +kernel
theorem dX11_share_42 : decode mX11_share.2.1 42 = .ok (.ireturn, 1) := by decide +kernel
theorem dX11_told_0 : decode mX11_told.2.1 0 = .ok (.aload_n 0, 1) := by decide +kernel
theorem dX11_told_1 : decode mX11_told.2.1 1 = .ok (.getfield 10, 3) := by decide +kernel
theorem dX11_told_4 : decode mX11_told.2.1 4 = .ok (.getfield 104, 3) := by decide +kernel
theorem dX11_told_7 : decode mX11_told.2.1 7 = .ok (.iload_n 1, 1) := by decide +kernel
theorem dX11_told_8 : decode mX11_told.2.1 8 = .ok (.invokevirtual 107, 3) := by decide +kernel
theorem dX11_told_11 : decode mX11_told.2.1 11 = .ok (.ifCond .ne 6, 3) := by decide +kernel
theorem dX11_told_14 : decode mX11_told.2.1 14 = .ok (.bipush (-2), 2) := by decide +kernel
theorem dX11_told_16 : decode mX11_told.2.1 16 = .ok (.ireturn, 1) := by decide +kernel
theorem dX11_told_17 : decode mX11_told.2.1 17 = .ok (.aload_n 0, 1) := by decide +kernel
theorem dX11_told_18 : decode mX11_told.2.1 18 = .ok (.getfield 28, 3) := by decide +kernel
theorem dX11_told_21 : decode mX11_told.2.1 21 = .ok (.getfield 110, 3) := by decide +kernel
theorem dX11_told_24 : decode mX11_told.2.1 24 = .ok (.iload_n 1, 1) := by decide +kernel
theorem dX11_told_25 : decode mX11_told.2.1 25 = .ok (.iload_n 2, 1) := by decide +kernel
theorem dX11_told_26 : decode mX11_told.2.1 26 = .ok (.invokevirtual 161, 3) := by decide +kernel
theorem dX11_told_29 : decode mX11_told.2.1 29 = .ok (.ireturn, 1) := by decide +kernel
theorem dX11_job_0 : decode mX11_job.2.1 0 = .ok (.aload_n 0, 1) := by decide +kernel
theorem dX11_job_1 : decode mX11_job.2.1 1 = .ok (.getfield 10, 3) := by decide +kernel
theorem dX11_job_4 : decode mX11_job.2.1 4 = .ok (.getfield 164, 3) := by decide +kernel
theorem dX11_job_7 : decode mX11_job.2.1 7 = .ok (.iload_n 1, 1) := by decide +kernel
theorem dX11_job_8 : decode mX11_job.2.1 8 = .ok (.invokevirtual 107, 3) := by decide +kernel
theorem dX11_job_11 : decode mX11_job.2.1 11 = .ok (.ifCond .ne 6, 3) := by decide +kernel
theorem dX11_job_14 : decode mX11_job.2.1 14 = .ok (.bipush (-2), 2) := by decide +kernel
theorem dX11_job_16 : decode mX11_job.2.1 16 = .ok (.ireturn, 1) := by decide +kernel
theorem dX11_job_17 : decode mX11_job.2.1 17 = .ok (.iload_n 2, 1) := by decide +kernel
theorem dX11_job_18 : decode mX11_job.2.1 18 = .ok (.tableswitch 91 0 4 #[34, 47, 60, 73, 82], 34) := by decide +kernel
theorem dX11_job_52 : decode mX11_job.2.1 52 = .ok (.aload_n 0, 1) := by decide +kernel
theorem dX11_job_53 : decode mX11_job.2.1 53 = .ok (.getfield 10, 3) := by decide +kernel
theorem dX11_job_56 : decode mX11_job.2.1 56 = .ok (.getfield 164, 3) := by decide +kernel
theorem dX11_job_59 : decode mX11_job.2.1 59 = .ok (.iload_n 1, 1) := by decide +kernel
theorem dX11_job_60 : decode mX11_job.2.1 60 = .ok (.iconst 0, 1) := by decide +kernel
theorem dX11_job_61 : decode mX11_job.2.1 61 = .ok (.invokevirtual 167, 3) := by decide +kernel
theorem dX11_job_64 : decode mX11_job.2.1 64 = .ok (.ireturn, 1) := by decide +kernel
theorem dX11_job_65 : decode mX11_job.2.1 65 = .ok (.aload_n 0, 1) := by decide +kernel
theorem dX11_job_66 : decode mX11_job.2.1 66 = .ok (.getfield 10, 3) := by decide +kernel
theorem dX11_job_69 : decode mX11_job.2.1 69 = .ok (.getfield 164, 3) := by decide +kernel
theorem dX11_job_72 : decode mX11_job.2.1 72 = .ok (.iload_n 1, 1) := by decide +kernel
theorem dX11_job_73 : decode mX11_job.2.1 73 = .ok (.iconst 1, 1) := by decide +kernel
theorem dX11_job_74 : decode mX11_job.2.1 74 = .ok (.invokevirtual 167, 3) := by decide +kernel
theorem dX11_job_77 : decode mX11_job.2.1 77 = .ok (.ireturn, 1) := by decide +kernel
theorem dX11_job_78 : decode mX11_job.2.1 78 = .ok (.aload_n 0, 1) := by decide +kernel
theorem dX11_job_79 : decode mX11_job.2.1 79 = .ok (.getfield 10, 3) := by decide +kernel
theorem dX11_job_82 : decode mX11_job.2.1 82 = .ok (.getfield 164, 3) := by decide +kernel
theorem dX11_job_85 : decode mX11_job.2.1 85 = .ok (.iload_n 1, 1) := by decide +kernel
theorem dX11_job_86 : decode mX11_job.2.1 86 = .ok (.iconst 2, 1) := by decide +kernel
theorem dX11_job_87 : decode mX11_job.2.1 87 = .ok (.invokevirtual 167, 3) := by decide +kernel
theorem dX11_job_90 : decode mX11_job.2.1 90 = .ok (.ireturn, 1) := by decide +kernel
theorem dX11_job_91 : decode mX11_job.2.1 91 = .ok (.aload_n 0, 1) := by decide +kernel
theorem dX11_job_92 : decode mX11_job.2.1 92 = .ok (.getfield 28, 3) := by decide +kernel
theorem dX11_job_95 : decode mX11_job.2.1 95 = .ok (.iload_n 1, 1) := by decide +kernel
theorem dX11_job_96 : decode mX11_job.2.1 96 = .ok (.invokevirtual 170, 3) := by decide +kernel
theorem dX11_job_99 : decode mX11_job.2.1 99 = .ok (.ireturn, 1) := by decide +kernel
theorem dX11_job_100 : decode mX11_job.2.1 100 = .ok (.aload_n 0, 1) := by decide +kernel
theorem dX11_job_101 : decode mX11_job.2.1 101 = .ok (.getfield 28, 3) := by decide +kernel
theorem dX11_job_104 : decode mX11_job.2.1 104 = .ok (.iload_n 1, 1) := by decide +kernel
theorem dX11_job_105 : decode mX11_job.2.1 105 = .ok (.invokevirtual 174, 3) := by decide +kernel
theorem dX11_job_108 : decode mX11_job.2.1 108 = .ok (.ireturn, 1) := by decide +kernel
theorem dX11_job_109 : decode mX11_job.2.1 109 = .ok (.bipush (-2), 2) := by decide +kernel
theorem dX11_job_111 : decode mX11_job.2.1 111 = .ok (.ireturn, 1) := by decide +kernel
theorem dX11_strip_0 : decode mX11_strip.2.1 0 = .ok (.iload_n 1, 1) := by decide +kernel
theorem dX11_strip_1 : decode mX11_strip.2.1 1 = .ok (.iconst 0, 1) := by decide +kernel
theorem dX11_strip_2 : decode mX11_strip.2.1 2 = .ok (.iconst 1, 1) := by decide +kernel
theorem dX11_strip_3 : decode mX11_strip.2.1 3 = .ok (.invokestatic 71, 3) := by decide +kernel
theorem dX11_strip_6 : decode mX11_strip.2.1 6 = .ok (.ifCond .eq 27, 3) := by decide +kernel
theorem dX11_strip_9 : decode mX11_strip.2.1 9 = .ok (.iload_n 2, 1) := by decide +kernel
theorem dX11_strip_10 : decode mX11_strip.2.1 10 = .ok (.iconst 0, 1) := by decide +kernel
theorem dX11_strip_11 : decode mX11_strip.2.1 11 = .ok (.sipush 9999, 3) := by decide +kernel
theorem dX11_strip_14 : decode mX11_strip.2.1 14 = .ok (.invokestatic 71, 3) := by decide +kernel
theorem dX11_strip_17 : decode mX11_strip.2.1 17 = .ok (.ifCond .eq 16, 3) := by decide +kernel
theorem dX11_strip_20 : decode mX11_strip.2.1 20 = .ok (.aload_n 0, 1) := by decide +kernel
theorem dX11_strip_21 : decode mX11_strip.2.1 21 = .ok (.getfield 52, 3) := by decide +kernel
theorem dX11_strip_24 : decode mX11_strip.2.1 24 = .ok (.getfield 231, 3) := by decide +kernel
theorem dX11_strip_27 : decode mX11_strip.2.1 27 = .ok (.invokevirtual 234, 3) := by decide +kernel
theorem dX11_strip_30 : decode mX11_strip.2.1 30 = .ok (.ifCond .eq 5, 3) := by decide +kernel
theorem dX11_strip_33 : decode mX11_strip.2.1 33 = .ok (.iconst (-1), 1) := by decide +kernel
theorem dX11_strip_34 : decode mX11_strip.2.1 34 = .ok (.ireturn, 1) := by decide +kernel
theorem dX11_strip_35 : decode mX11_strip.2.1 35 = .ok (.aload_n 0, 1) := by decide +kernel
theorem dX11_strip_36 : decode mX11_strip.2.1 36 = .ok (.getfield 52, 3) := by decide +kernel
theorem dX11_strip_39 : decode mX11_strip.2.1 39 = .ok (.getfield 231, 3) := by decide +kernel
theorem dX11_strip_42 : decode mX11_strip.2.1 42 = .ok (.iload_n 1, 1) := by decide +kernel
theorem dX11_strip_43 : decode mX11_strip.2.1 43 = .ok (.iload_n 2, 1) := by decide +kernel
theorem dX11_strip_44 : decode mX11_strip.2.1 44 = .ok (.iconst 0, 1) := by decide +kernel
theorem dX11_strip_45 : decode mX11_strip.2.1 45 = .ok (.iconst 0, 1) := by decide +kernel
theorem dX11_strip_46 : decode mX11_strip.2.1 46 = .ok (.iconst 0, 1) := by decide +kernel
theorem dX11_strip_47 : decode mX11_strip.2.1 47 = .ok (.iconst 0, 1) := by decide +kernel
theorem dX11_strip_48 : decode mX11_strip.2.1 48 = .ok (.invokevirtual 94, 3) := by decide +kernel
theorem dX11_strip_51 : decode mX11_strip.2.1 51 = .ok (.aload_n 0, 1) := by decide +kernel
theorem dX11_strip_52 : decode mX11_strip.2.1 52 = .ok (.getfield 52, 3) := by decide +kernel
theorem dX11_strip_55 : decode mX11_strip.2.1 55 = .ok (.getfield 231, 3) := by decide +kernel
theorem dX11_strip_58 : decode mX11_strip.2.1 58 = .ok (.getfield 141, 3) := by decide +kernel
theorem dX11_strip_61 : decode mX11_strip.2.1 61 = .ok (.iconst 1, 1) := by decide +kernel
theorem dX11_strip_62 : decode mX11_strip.2.1 62 = .ok (.isub, 1) := by decide +kernel
theorem dX11_strip_63 : decode mX11_strip.2.1 63 = .ok (.ireturn, 1) := by decide +kernel
theorem dX11_count_0 : decode mX11_count.2.1 0 = .ok (.iload_n 1, 1) := by decide +kernel
theorem dX11_count_1 : decode mX11_count.2.1 1 = .ok (.tableswitch 257 0 16 #[83, 91, 102, 113, 124, 135, 144, 153, 164, 175, 189, 203, 214, 219, 227, 235, 246], 83) := by decide +kernel
theorem dX11_count_84 : decode mX11_count.2.1 84 = .ok (.aload_n 0, 1) := by decide +kernel
theorem dX11_count_85 : decode mX11_count.2.1 85 = .ok (.getfield 28, 3) := by decide +kernel
theorem dX11_count_88 : decode mX11_count.2.1 88 = .ok (.getfield 83, 3) := by decide +kernel
theorem dX11_count_91 : decode mX11_count.2.1 91 = .ok (.ireturn, 1) := by decide +kernel
theorem dX11_count_92 : decode mX11_count.2.1 92 = .ok (.aload_n 0, 1) := by decide +kernel
theorem dX11_count_93 : decode mX11_count.2.1 93 = .ok (.getfield 10, 3) := by decide +kernel
theorem dX11_count_96 : decode mX11_count.2.1 96 = .ok (.getfield 304, 3) := by decide +kernel
theorem dX11_count_99 : decode mX11_count.2.1 99 = .ok (.getfield 141, 3) := by decide +kernel
theorem dX11_count_102 : decode mX11_count.2.1 102 = .ok (.ireturn, 1) := by decide +kernel
theorem dX11_count_103 : decode mX11_count.2.1 103 = .ok (.aload_n 0, 1) := by decide +kernel
theorem dX11_count_104 : decode mX11_count.2.1 104 = .ok (.getfield 10, 3) := by decide +kernel
theorem dX11_count_107 : decode mX11_count.2.1 107 = .ok (.getfield 86, 3) := by decide +kernel
theorem dX11_count_110 : decode mX11_count.2.1 110 = .ok (.getfield 141, 3) := by decide +kernel
theorem dX11_count_113 : decode mX11_count.2.1 113 = .ok (.ireturn, 1) := by decide +kernel
theorem dX11_count_114 : decode mX11_count.2.1 114 = .ok (.aload_n 0, 1) := by decide +kernel
theorem dX11_count_115 : decode mX11_count.2.1 115 = .ok (.getfield 10, 3) := by decide +kernel
theorem dX11_count_118 : decode mX11_count.2.1 118 = .ok (.getfield 104, 3) := by decide +kernel
theorem dX11_count_121 : decode mX11_count.2.1 121 = .ok (.getfield 141, 3) := by decide +kernel
theorem dX11_count_124 : decode mX11_count.2.1 124 = .ok (.ireturn, 1) := by decide +kernel
theorem dX11_count_125 : decode mX11_count.2.1 125 = .ok (.aload_n 0, 1) := by decide +kernel
theorem dX11_count_126 : decode mX11_count.2.1 126 = .ok (.getfield 10, 3) := by decide +kernel
theorem dX11_count_129 : decode mX11_count.2.1 129 = .ok (.getfield 164, 3) := by decide +kernel
theorem dX11_count_132 : decode mX11_count.2.1 132 = .ok (.getfield 141, 3) := by decide +kernel
theorem dX11_count_135 : decode mX11_count.2.1 135 = .ok (.ireturn, 1) := by decide +kernel
theorem dX11_count_136 : decode mX11_count.2.1 136 = .ok (.aload_n 0, 1) := by decide +kernel
theorem dX11_count_137 : decode mX11_count.2.1 137 = .ok (.getfield 28, 3) := by decide +kernel
theorem dX11_count_140 : decode mX11_count.2.1 140 = .ok (.iconst 0, 1) := by decide +kernel
theorem dX11_count_141 : decode mX11_count.2.1 141 = .ok (.invokevirtual 307, 3) := by decide +kernel
theorem dX11_count_144 : decode mX11_count.2.1 144 = .ok (.ireturn, 1) := by decide +kernel
theorem dX11_count_145 : decode mX11_count.2.1 145 = .ok (.aload_n 0, 1) := by decide +kernel
theorem dX11_count_146 : decode mX11_count.2.1 146 = .ok (.getfield 28, 3) := by decide +kernel
theorem dX11_count_149 : decode mX11_count.2.1 149 = .ok (.iconst 2, 1) := by decide +kernel
theorem dX11_count_150 : decode mX11_count.2.1 150 = .ok (.invokevirtual 307, 3) := by decide +kernel
theorem dX11_count_153 : decode mX11_count.2.1 153 = .ok (.ireturn, 1) := by decide +kernel
theorem dX11_count_154 : decode mX11_count.2.1 154 = .ok (.aload_n 0, 1) := by decide +kernel
theorem dX11_count_155 : decode mX11_count.2.1 155 = .ok (.getfield 10, 3) := by decide +kernel
theorem dX11_count_158 : decode mX11_count.2.1 158 = .ok (.getfield 123, 3) := by decide +kernel
theorem dX11_count_161 : decode mX11_count.2.1 161 = .ok (.getfield 141, 3) := by decide +kernel
theorem dX11_count_164 : decode mX11_count.2.1 164 = .ok (.ireturn, 1) := by decide +kernel
theorem dX11_count_165 : decode mX11_count.2.1 165 = .ok (.aload_n 0, 1) := by decide +kernel
theorem dX11_count_166 : decode mX11_count.2.1 166 = .ok (.getfield 10, 3) := by decide +kernel
theorem dX11_count_169 : decode mX11_count.2.1 169 = .ok (.getfield 129, 3) := by decide +kernel
theorem dX11_count_172 : decode mX11_count.2.1 172 = .ok (.getfield 141, 3) := by decide +kernel
theorem dX11_count_175 : decode mX11_count.2.1 175 = .ok (.ireturn, 1) := by decide +kernel
theorem dX11_count_176 : decode mX11_count.2.1 176 = .ok (.aload_n 0, 1) := by decide +kernel
theorem dX11_count_177 : decode mX11_count.2.1 177 = .ok (.getfield 28, 3) := by decide +kernel
theorem dX11_count_180 : decode mX11_count.2.1 180 = .ok (.getfield 132, 3) := by decide +kernel
theorem dX11_count_183 : decode mX11_count.2.1 183 = .ok (.getfield 215, 3) := by decide +kernel
theorem dX11_count_186 : decode mX11_count.2.1 186 = .ok (.invokestatic 310, 3) := by decide +kernel
theorem dX11_count_189 : decode mX11_count.2.1 189 = .ok (.ireturn, 1) := by decide +kernel
theorem dX11_count_190 : decode mX11_count.2.1 190 = .ok (.aload_n 0, 1) := by decide +kernel
theorem dX11_count_191 : decode mX11_count.2.1 191 = .ok (.getfield 28, 3) := by decide +kernel
theorem dX11_count_194 : decode mX11_count.2.1 194 = .ok (.getfield 132, 3) := by decide +kernel
theorem dX11_count_197 : decode mX11_count.2.1 197 = .ok (.getfield 218, 3) := by decide +kernel
theorem dX11_count_200 : decode mX11_count.2.1 200 = .ok (.invokestatic 310, 3) := by decide +kernel
theorem dX11_count_203 : decode mX11_count.2.1 203 = .ok (.ireturn, 1) := by decide +kernel
theorem dX11_count_204 : decode mX11_count.2.1 204 = .ok (.aload_n 0, 1) := by decide +kernel
theorem dX11_count_205 : decode mX11_count.2.1 205 = .ok (.getfield 52, 3) := by decide +kernel
theorem dX11_count_208 : decode mX11_count.2.1 208 = .ok (.getfield 231, 3) := by decide +kernel
theorem dX11_count_211 : decode mX11_count.2.1 211 = .ok (.getfield 141, 3) := by decide +kernel
theorem dX11_count_214 : decode mX11_count.2.1 214 = .ok (.ireturn, 1) := by decide +kernel
theorem dX11_count_215 : decode mX11_count.2.1 215 = .ok (.aload_n 0, 1) := by decide +kernel
theorem dX11_count_216 : decode mX11_count.2.1 216 = .ok (.getfield 60, 3) := by decide +kernel
theorem dX11_count_219 : decode mX11_count.2.1 219 = .ok (.ireturn, 1) := by decide +kernel
theorem dX11_count_220 : decode mX11_count.2.1 220 = .ok (.aload_n 0, 1) := by decide +kernel
theorem dX11_count_221 : decode mX11_count.2.1 221 = .ok (.getfield 45, 3) := by decide +kernel
theorem dX11_count_224 : decode mX11_count.2.1 224 = .ok (.getfield 316, 3) := by decide +kernel
theorem dX11_count_227 : decode mX11_count.2.1 227 = .ok (.ireturn, 1) := by decide +kernel
theorem dX11_count_228 : decode mX11_count.2.1 228 = .ok (.aload_n 0, 1) := by decide +kernel
theorem dX11_count_229 : decode mX11_count.2.1 229 = .ok (.getfield 38, 3) := by decide +kernel
theorem dX11_count_232 : decode mX11_count.2.1 232 = .ok (.getfield 255, 3) := by decide +kernel
theorem dX11_count_235 : decode mX11_count.2.1 235 = .ok (.ireturn, 1) := by decide +kernel
theorem dX11_count_236 : decode mX11_count.2.1 236 = .ok (.aload_n 0, 1) := by decide +kernel
theorem dX11_count_237 : decode mX11_count.2.1 237 = .ok (.getfield 28, 3) := by decide +kernel
theorem dX11_count_240 : decode mX11_count.2.1 240 = .ok (.getfield 110, 3) := by decide +kernel
theorem dX11_count_243 : decode mX11_count.2.1 243 = .ok (.invokevirtual 317, 3) := by decide +kernel
theorem dX11_count_246 : decode mX11_count.2.1 246 = .ok (.ireturn, 1) := by decide +kernel
theorem dX11_count_247 : decode mX11_count.2.1 247 = .ok (.aload_n 0, 1) := by decide +kernel
theorem dX11_count_248 : decode mX11_count.2.1 248 = .ok (.getfield 28, 3) := by decide +kernel
theorem dX11_count_251 : decode mX11_count.2.1 251 = .ok (.getfield 132, 3) := by decide +kernel
theorem dX11_count_254 : decode mX11_count.2.1 254 = .ok (.invokevirtual 320, 3) := by decide +kernel
theorem dX11_count_257 : decode mX11_count.2.1 257 = .ok (.ireturn, 1) := by decide +kernel
theorem dX11_count_258 : decode mX11_count.2.1 258 = .ok (.iconst (-1), 1) := by decide +kernel
theorem dX11_count_259 : decode mX11_count.2.1 259 = .ok (.ireturn, 1) := by decide +kernel
theorem dX11_way_0 : decode mX11_way.2.1 0 = .ok (.aload_n 0, 1) := by decide +kernel
theorem dX11_way_1 : decode mX11_way.2.1 1 = .ok (.getfield 10, 3) := by decide +kernel
theorem dX11_way_4 : decode mX11_way.2.1 4 = .ok (.getfield 104, 3) := by decide +kernel
theorem dX11_way_7 : decode mX11_way.2.1 7 = .ok (.iload_n 1, 1) := by decide +kernel
theorem dX11_way_8 : decode mX11_way.2.1 8 = .ok (.invokevirtual 107, 3) := by decide +kernel
theorem dX11_way_11 : decode mX11_way.2.1 11 = .ok (.ifCond .eq 10, 3) := by decide +kernel
theorem dX11_way_14 : decode mX11_way.2.1 14 = .ok (.iload_n 2, 1) := by decide +kernel
theorem dX11_way_15 : decode mX11_way.2.1 15 = .ok (.invokestatic 67, 3) := by decide +kernel
theorem dX11_way_18 : decode mX11_way.2.1 18 = .ok (.ifCond .ne 5, 3) := by decide +kernel
theorem dX11_way_21 : decode mX11_way.2.1 21 = .ok (.iconst (-1), 1) := by decide +kernel
theorem dX11_way_22 : decode mX11_way.2.1 22 = .ok (.ireturn, 1) := by decide +kernel
theorem dX11_way_23 : decode mX11_way.2.1 23 = .ok (.aload_n 0, 1) := by decide +kernel
theorem dX11_way_24 : decode mX11_way.2.1 24 = .ok (.getfield 19, 3) := by decide +kernel
theorem dX11_way_27 : decode mX11_way.2.1 27 = .ok (.iload_n 1, 1) := by decide +kernel
theorem dX11_way_28 : decode mX11_way.2.1 28 = .ok (.aload_n 0, 1) := by decide +kernel
theorem dX11_way_29 : decode mX11_way.2.1 29 = .ok (.getfield 10, 3) := by decide +kernel
theorem dX11_way_32 : decode mX11_way.2.1 32 = .ok (.getfield 104, 3) := by decide +kernel
theorem dX11_way_35 : decode mX11_way.2.1 35 = .ok (.aload_n 0, 1) := by decide +kernel
theorem dX11_way_36 : decode mX11_way.2.1 36 = .ok (.getfield 28, 3) := by decide +kernel
theorem dX11_way_39 : decode mX11_way.2.1 39 = .ok (.getfield 110, 3) := by decide +kernel
theorem dX11_way_42 : decode mX11_way.2.1 42 = .ok (.aload_n 0, 1) := by decide +kernel
theorem dX11_way_43 : decode mX11_way.2.1 43 = .ok (.getfield 28, 3) := by decide +kernel
theorem dX11_way_46 : decode mX11_way.2.1 46 = .ok (.getfield 177, 3) := by decide +kernel
theorem dX11_way_49 : decode mX11_way.2.1 49 = .ok (.aload_n 0, 1) := by decide +kernel
theorem dX11_way_50 : decode mX11_way.2.1 50 = .ok (.getfield 28, 3) := by decide +kernel
theorem dX11_way_53 : decode mX11_way.2.1 53 = .ok (.getfield 181, 3) := by decide +kernel
theorem dX11_way_56 : decode mX11_way.2.1 56 = .ok (.iconst 0, 1) := by decide +kernel
theorem dX11_way_57 : decode mX11_way.2.1 57 = .ok (.iaload, 1) := by decide +kernel
theorem dX11_way_58 : decode mX11_way.2.1 58 = .ok (.invokevirtual 184, 3) := by decide +kernel
theorem dX11_way_61 : decode mX11_way.2.1 61 = .ok (.aload_n 0, 1) := by decide +kernel
theorem dX11_way_62 : decode mX11_way.2.1 62 = .ok (.getfield 19, 3) := by decide +kernel
theorem dX11_way_65 : decode mX11_way.2.1 65 = .ok (.iload_n 1, 1) := by decide +kernel
theorem dX11_way_66 : decode mX11_way.2.1 66 = .ok (.iload_n 2, 1) := by decide +kernel
theorem dX11_way_67 : decode mX11_way.2.1 67 = .ok (.invokevirtual 188, 3) := by decide +kernel
theorem dX11_way_70 : decode mX11_way.2.1 70 = .ok (.ifCond .ne 5, 3) := by decide +kernel
theorem dX11_way_73 : decode mX11_way.2.1 73 = .ok (.iconst (-1), 1) := by decide +kernel
theorem dX11_way_74 : decode mX11_way.2.1 74 = .ok (.ireturn, 1) := by decide +kernel
theorem dX11_way_75 : decode mX11_way.2.1 75 = .ok (.iload_n 3, 1) := by decide +kernel
theorem dX11_way_76 : decode mX11_way.2.1 76 = .ok (.tableswitch 58 0 2 #[28, 38, 48], 28) := by decide +kernel
theorem dX11_way_104 : decode mX11_way.2.1 104 = .ok (.aload_n 0, 1) := by decide +kernel
theorem dX11_way_105 : decode mX11_way.2.1 105 = .ok (.getfield 19, 3) := by decide +kernel
theorem dX11_way_108 : decode mX11_way.2.1 108 = .ok (.iload_n 1, 1) := by decide +kernel
theorem dX11_way_109 : decode mX11_way.2.1 109 = .ok (.iload_n 2, 1) := by decide +kernel
theorem dX11_way_110 : decode mX11_way.2.1 110 = .ok (.invokevirtual 191, 3) := by decide +kernel
theorem dX11_way_113 : decode mX11_way.2.1 113 = .ok (.ireturn, 1) := by decide +kernel
theorem dX11_way_114 : decode mX11_way.2.1 114 = .ok (.aload_n 0, 1) := by decide +kernel
theorem dX11_way_115 : decode mX11_way.2.1 115 = .ok (.getfield 19, 3) := by decide +kernel
theorem dX11_way_118 : decode mX11_way.2.1 118 = .ok (.iload_n 1, 1) := by decide +kernel
theorem dX11_way_119 : decode mX11_way.2.1 119 = .ok (.iload_n 2, 1) := by decide +kernel
theorem dX11_way_120 : decode mX11_way.2.1 120 = .ok (.invokevirtual 194, 3) := by decide +kernel
theorem dX11_way_123 : decode mX11_way.2.1 123 = .ok (.ireturn, 1) := by decide +kernel
theorem dX11_way_124 : decode mX11_way.2.1 124 = .ok (.aload_n 0, 1) := by decide +kernel
theorem dX11_way_125 : decode mX11_way.2.1 125 = .ok (.getfield 19, 3) := by decide +kernel
theorem dX11_way_128 : decode mX11_way.2.1 128 = .ok (.iload_n 1, 1) := by decide +kernel
theorem dX11_way_129 : decode mX11_way.2.1 129 = .ok (.iload_n 2, 1) := by decide +kernel
theorem dX11_way_130 : decode mX11_way.2.1 130 = .ok (.invokevirtual 197, 3) := by decide +kernel
theorem dX11_way_133 : decode mX11_way.2.1 133 = .ok (.ireturn, 1) := by decide +kernel
theorem dX11_way_134 : decode mX11_way.2.1 134 = .ok (.iconst (-1), 1) := by decide +kernel
theorem dX11_way_135 : decode mX11_way.2.1 135 = .ok (.ireturn, 1) := by decide +kernel
theorem dX11_spot_0 : decode mX11_spot.2.1 0 = .ok (.iload_n 1, 1) := by decide +kernel
theorem dX11_spot_1 : decode mX11_spot.2.1 1 = .ok (.iconst 0, 1) := by decide +kernel
theorem dX11_spot_2 : decode mX11_spot.2.1 2 = .ok (.bipush 64, 2) := by decide +kernel
theorem dX11_spot_4 : decode mX11_spot.2.1 4 = .ok (.invokestatic 71, 3) := by decide +kernel
theorem dX11_spot_7 : decode mX11_spot.2.1 7 = .ok (.ifCond .eq 7, 3) := by decide +kernel
theorem dX11_spot_10 : decode mX11_spot.2.1 10 = .ok (.iload_n 2, 1) := by decide +kernel
theorem dX11_spot_11 : decode mX11_spot.2.1 11 = .ok (.ifCond .ge 5, 3) := by decide +kernel
theorem dX11_spot_14 : decode mX11_spot.2.1 14 = .ok (.iconst (-1), 1) := by decide +kernel
theorem dX11_spot_15 : decode mX11_spot.2.1 15 = .ok (.ireturn, 1) := by decide +kernel
theorem dX11_spot_16 : decode mX11_spot.2.1 16 = .ok (.aload_n 0, 1) := by decide +kernel
theorem dX11_spot_17 : decode mX11_spot.2.1 17 = .ok (.getfield 28, 3) := by decide +kernel
theorem dX11_spot_20 : decode mX11_spot.2.1 20 = .ok (.getfield 132, 3) := by decide +kernel
theorem dX11_spot_23 : decode mX11_spot.2.1 23 = .ok (.getfield 215, 3) := by decide +kernel
theorem dX11_spot_26 : decode mX11_spot.2.1 26 = .ok (.aload_n 0, 1) := by decide +kernel
theorem dX11_spot_27 : decode mX11_spot.2.1 27 = .ok (.getfield 28, 3) := by decide +kernel
theorem dX11_spot_30 : decode mX11_spot.2.1 30 = .ok (.getfield 132, 3) := by decide +kernel
theorem dX11_spot_33 : decode mX11_spot.2.1 33 = .ok (.getfield 218, 3) := by decide +kernel
theorem dX11_spot_36 : decode mX11_spot.2.1 36 = .ok (.iload_n 1, 1) := by decide +kernel
theorem dX11_spot_37 : decode mX11_spot.2.1 37 = .ok (.iload_n 2, 1) := by decide +kernel
theorem dX11_spot_38 : decode mX11_spot.2.1 38 = .ok (.invokestatic 221, 3) := by decide +kernel
theorem dX11_spot_41 : decode mX11_spot.2.1 41 = .ok (.ireturn, 1) := by decide +kernel
theorem dX11_pull_0 : decode mX11_pull.2.1 0 = .ok (.iload_n 1, 1) := by decide +kernel
theorem dX11_pull_1 : decode mX11_pull.2.1 1 = .ok (.iconst 1, 1) := by decide +kernel
theorem dX11_pull_2 : decode mX11_pull.2.1 2 = .ok (.iconst 3, 1) := by decide +kernel
theorem dX11_pull_3 : decode mX11_pull.2.1 3 = .ok (.invokestatic 71, 3) := by decide +kernel
theorem dX11_pull_6 : decode mX11_pull.2.1 6 = .ok (.ifCond .eq 28, 3) := by decide +kernel
theorem dX11_pull_9 : decode mX11_pull.2.1 9 = .ok (.iload_n 2, 1) := by decide +kernel
theorem dX11_pull_10 : decode mX11_pull.2.1 10 = .ok (.iconst 0, 1) := by decide +kernel
theorem dX11_pull_11 : decode mX11_pull.2.1 11 = .ok (.bipush 64, 2) := by decide +kernel
theorem dX11_pull_13 : decode mX11_pull.2.1 13 = .ok (.invokestatic 71, 3) := by decide +kernel
theorem dX11_pull_16 : decode mX11_pull.2.1 16 = .ok (.ifCond .eq 18, 3) := by decide +kernel
theorem dX11_pull_19 : decode mX11_pull.2.1 19 = .ok (.aload_n 0, 1) := by decide +kernel
theorem dX11_pull_20 : decode mX11_pull.2.1 20 = .ok (.getfield 28, 3) := by decide +kernel
theorem dX11_pull_23 : decode mX11_pull.2.1 23 = .ok (.getfield 132, 3) := by decide +kernel
theorem dX11_pull_26 : decode mX11_pull.2.1 26 = .ok (.getfield 218, 3) := by decide +kernel
theorem dX11_pull_29 : decode mX11_pull.2.1 29 = .ok (.lconst 0, 1) := by decide +kernel
theorem dX11_pull_30 : decode mX11_pull.2.1 30 = .ok (.lcmp, 1) := by decide +kernel
theorem dX11_pull_31 : decode mX11_pull.2.1 31 = .ok (.ifCond .ne 5, 3) := by decide +kernel
theorem dX11_pull_34 : decode mX11_pull.2.1 34 = .ok (.iconst (-1), 1) := by decide +kernel
theorem dX11_pull_35 : decode mX11_pull.2.1 35 = .ok (.ireturn, 1) := by decide +kernel
theorem dX11_pull_36 : decode mX11_pull.2.1 36 = .ok (.aload_n 0, 1) := by decide +kernel
theorem dX11_pull_37 : decode mX11_pull.2.1 37 = .ok (.getfield 28, 3) := by decide +kernel
theorem dX11_pull_40 : decode mX11_pull.2.1 40 = .ok (.getfield 132, 3) := by decide +kernel
theorem dX11_pull_43 : decode mX11_pull.2.1 43 = .ok (.getfield 215, 3) := by decide +kernel
theorem dX11_pull_46 : decode mX11_pull.2.1 46 = .ok (.aload_n 0, 1) := by decide +kernel
theorem dX11_pull_47 : decode mX11_pull.2.1 47 = .ok (.getfield 28, 3) := by decide +kernel
theorem dX11_pull_50 : decode mX11_pull.2.1 50 = .ok (.getfield 132, 3) := by decide +kernel
theorem dX11_pull_53 : decode mX11_pull.2.1 53 = .ok (.getfield 218, 3) := by decide +kernel
theorem dX11_pull_56 : decode mX11_pull.2.1 56 = .ok (.iload_n 1, 1) := by decide +kernel
theorem dX11_pull_57 : decode mX11_pull.2.1 57 = .ok (.iload_n 2, 1) := by decide +kernel
theorem dX11_pull_58 : decode mX11_pull.2.1 58 = .ok (.iload_n 3, 1) := by decide +kernel
theorem dX11_pull_59 : decode mX11_pull.2.1 59 = .ok (.invokestatic 227, 3) := by decide +kernel
theorem dX11_pull_62 : decode mX11_pull.2.1 62 = .ok (.ireturn, 1) := by decide +kernel
theorem dX11_better_0 : decode mX11_better.2.1 0 = .ok (.iload_n 1, 1) := by decide +kernel
theorem dX11_better_1 : decode mX11_better.2.1 1 = .ok (.tableswitch 51 0 2 #[27, 35, 43], 27) := by decide +kernel
theorem dX11_better_28 : decode mX11_better.2.1 28 = .ok (.aload_n 0, 1) := by decide +kernel
theorem dX11_better_29 : decode mX11_better.2.1 29 = .ok (.getfield 52, 3) := by decide +kernel
theorem dX11_better_32 : decode mX11_better.2.1 32 = .ok (.invokevirtual 238, 3) := by decide +kernel
theorem dX11_better_35 : decode mX11_better.2.1 35 = .ok (.ireturn, 1) := by decide +kernel
theorem dX11_better_36 : decode mX11_better.2.1 36 = .ok (.aload_n 0, 1) := by decide +kernel
theorem dX11_better_37 : decode mX11_better.2.1 37 = .ok (.getfield 52, 3) := by decide +kernel
theorem dX11_better_40 : decode mX11_better.2.1 40 = .ok (.invokevirtual 242, 3) := by decide +kernel
theorem dX11_better_43 : decode mX11_better.2.1 43 = .ok (.ireturn, 1) := by decide +kernel
theorem dX11_better_44 : decode mX11_better.2.1 44 = .ok (.aload_n 0, 1) := by decide +kernel
theorem dX11_better_45 : decode mX11_better.2.1 45 = .ok (.getfield 52, 3) := by decide +kernel
theorem dX11_better_48 : decode mX11_better.2.1 48 = .ok (.invokevirtual 245, 3) := by decide +kernel
theorem dX11_better_51 : decode mX11_better.2.1 51 = .ok (.ireturn, 1) := by decide +kernel
theorem dX11_better_52 : decode mX11_better.2.1 52 = .ok (.ldc 248, 2) := by decide +kernel
theorem dX11_better_54 : decode mX11_better.2.1 54 = .ok (.ireturn, 1) := by decide +kernel
theorem dX11_tell_0 : decode mX11_tell.2.1 0 = .ok (.aload_n 0, 1) := by decide +kernel
theorem dX11_tell_1 : decode mX11_tell.2.1 1 = .ok (.getfield 10, 3) := by decide +kernel
theorem dX11_tell_4 : decode mX11_tell.2.1 4 = .ok (.getfield 304, 3) := by decide +kernel
theorem dX11_tell_7 : decode mX11_tell.2.1 7 = .ok (.invokevirtual 234, 3) := by decide +kernel
theorem dX11_tell_10 : decode mX11_tell.2.1 10 = .ok (.ifCond .eq 5, 3) := by decide +kernel
theorem dX11_tell_13 : decode mX11_tell.2.1 13 = .ok (.iconst 0, 1) := by decide +kernel
theorem dX11_tell_14 : decode mX11_tell.2.1 14 = .ok (.ireturn, 1) := by decide +kernel
theorem dX11_tell_15 : decode mX11_tell.2.1 15 = .ok (.aload_n 0, 1) := by decide +kernel
theorem dX11_tell_16 : decode mX11_tell.2.1 16 = .ok (.getfield 10, 3) := by decide +kernel
theorem dX11_tell_19 : decode mX11_tell.2.1 19 = .ok (.getfield 304, 3) := by decide +kernel
theorem dX11_tell_22 : decode mX11_tell.2.1 22 = .ok (.aload_n 0, 1) := by decide +kernel
theorem dX11_tell_23 : decode mX11_tell.2.1 23 = .ok (.getfield 28, 3) := by decide +kernel
theorem dX11_tell_26 : decode mX11_tell.2.1 26 = .ok (.getfield 83, 3) := by decide +kernel
theorem dX11_tell_29 : decode mX11_tell.2.1 29 = .ok (.iload_n 1, 1) := by decide +kernel
theorem dX11_tell_30 : decode mX11_tell.2.1 30 = .ok (.iload_n 2, 1) := by decide +kernel
theorem dX11_tell_31 : decode mX11_tell.2.1 31 = .ok (.iload_n 3, 1) := by decide +kernel
theorem dX11_tell_32 : decode mX11_tell.2.1 32 = .ok (.iload 4, 2) := by decide +kernel
theorem dX11_tell_34 : decode mX11_tell.2.1 34 = .ok (.iconst 0, 1) := by decide +kernel
theorem dX11_tell_35 : decode mX11_tell.2.1 35 = .ok (.invokevirtual 94, 3) := by decide +kernel
theorem dX11_tell_38 : decode mX11_tell.2.1 38 = .ok (.aload_n 0, 1) := by decide +kernel
theorem dX11_tell_39 : decode mX11_tell.2.1 39 = .ok (.getfield 28, 3) := by decide +kernel
theorem dX11_tell_42 : decode mX11_tell.2.1 42 = .ok (.invokevirtual 323, 3) := by decide +kernel
theorem dX11_tell_45 : decode mX11_tell.2.1 45 = .ok (.iconst 1, 1) := by decide +kernel
theorem dX11_tell_46 : decode mX11_tell.2.1 46 = .ok (.ireturn, 1) := by decide +kernel
theorem dX11_tellNewest_0 : decode mX11_tellNewest.2.1 0 = .ok (.aload_n 2, 1) := by decide +kernel
theorem dX11_tellNewest_1 : decode mX11_tellNewest.2.1 1 = .ok (.getfield 141, 3) := by decide +kernel
theorem dX11_tellNewest_4 : decode mX11_tellNewest.2.1 4 = .ok (.iconst 1, 1) := by decide +kernel
theorem dX11_tellNewest_5 : decode mX11_tellNewest.2.1 5 = .ok (.isub, 1) := by decide +kernel
theorem dX11_tellNewest_6 : decode mX11_tellNewest.2.1 6 = .ok (.istore_n 3, 1) := by decide +kernel
theorem dX11_tellNewest_7 : decode mX11_tellNewest.2.1 7 = .ok (.aload_n 0, 1) := by decide +kernel
theorem dX11_tellNewest_8 : decode mX11_tellNewest.2.1 8 = .ok (.getfield 10, 3) := by decide +kernel
theorem dX11_tellNewest_11 : decode mX11_tellNewest.2.1 11 = .ok (.getfield 304, 3) := by decide +kernel
theorem dX11_tellNewest_14 : decode mX11_tellNewest.2.1 14 = .ok (.aload_n 0, 1) := by decide +kernel
theorem dX11_tellNewest_15 : decode mX11_tellNewest.2.1 15 = .ok (.getfield 28, 3) := by decide +kernel
theorem dX11_tellNewest_18 : decode mX11_tellNewest.2.1 18 = .ok (.getfield 83, 3) := by decide +kernel
theorem dX11_tellNewest_21 : decode mX11_tellNewest.2.1 21 = .ok (.iload_n 1, 1) := by decide +kernel
theorem dX11_tellNewest_22 : decode mX11_tellNewest.2.1 22 = .ok (.iload_n 3, 1) := by decide +kernel
theorem dX11_tellNewest_23 : decode mX11_tellNewest.2.1 23 = .ok (.iconst 0, 1) := by decide +kernel
theorem dX11_tellNewest_24 : decode mX11_tellNewest.2.1 24 = .ok (.iconst 0, 1) := by decide +kernel
theorem dX11_tellNewest_25 : decode mX11_tellNewest.2.1 25 = .ok (.iconst 0, 1) := by decide +kernel
theorem dX11_tellNewest_26 : decode mX11_tellNewest.2.1 26 = .ok (.invokevirtual 94, 3) := by decide +kernel
theorem dX11_tellNewest_29 : decode mX11_tellNewest.2.1 29 = .ok (.aload_n 0, 1) := by decide +kernel
theorem dX11_tellNewest_30 : decode mX11_tellNewest.2.1 30 = .ok (.getfield 28, 3) := by decide +kernel
theorem dX11_tellNewest_33 : decode mX11_tellNewest.2.1 33 = .ok (.invokevirtual 323, 3) := by decide +kernel
theorem dX11_tellNewest_36 : decode mX11_tellNewest.2.1 36 = .ok (.iload_n 3, 1) := by decide +kernel
theorem dX11_tellNewest_37 : decode mX11_tellNewest.2.1 37 = .ok (.ireturn, 1) := by decide +kernel
theorem dX11_addWork_0 : decode mX11_addWork.2.1 0 = .ok (.aload_n 0, 1) := by decide +kernel
theorem dX11_addWork_1 : decode mX11_addWork.2.1 1 = .ok (.getfield 10, 3) := by decide +kernel
theorem dX11_addWork_4 : decode mX11_addWork.2.1 4 = .ok (.aload_n 0, 1) := by decide +kernel
theorem dX11_addWork_5 : decode mX11_addWork.2.1 5 = .ok (.getfield 10, 3) := by decide +kernel
theorem dX11_addWork_8 : decode mX11_addWork.2.1 8 = .ok (.getfield 164, 3) := by decide +kernel
theorem dX11_addWork_11 : decode mX11_addWork.2.1 11 = .ok (.invokevirtual 90, 3) := by decide +kernel
theorem dX11_addWork_14 : decode mX11_addWork.2.1 14 = .ok (.ifCond .ne 5, 3) := by decide +kernel
theorem dX11_addWork_17 : decode mX11_addWork.2.1 17 = .ok (.iconst (-1), 1) := by decide +kernel
theorem dX11_addWork_18 : decode mX11_addWork.2.1 18 = .ok (.ireturn, 1) := by decide +kernel
theorem dX11_addWork_19 : decode mX11_addWork.2.1 19 = .ok (.aload_n 0, 1) := by decide +kernel
theorem dX11_addWork_20 : decode mX11_addWork.2.1 20 = .ok (.getfield 10, 3) := by decide +kernel
theorem dX11_addWork_23 : decode mX11_addWork.2.1 23 = .ok (.getfield 164, 3) := by decide +kernel
theorem dX11_addWork_26 : decode mX11_addWork.2.1 26 = .ok (.iload_n 1, 1) := by decide +kernel
theorem dX11_addWork_27 : decode mX11_addWork.2.1 27 = .ok (.iload_n 2, 1) := by decide +kernel
theorem dX11_addWork_28 : decode mX11_addWork.2.1 28 = .ok (.iload_n 3, 1) := by decide +kernel
theorem dX11_addWork_29 : decode mX11_addWork.2.1 29 = .ok (.iconst 0, 1) := by decide +kernel
theorem dX11_addWork_30 : decode mX11_addWork.2.1 30 = .ok (.iconst 0, 1) := by decide +kernel
theorem dX11_addWork_31 : decode mX11_addWork.2.1 31 = .ok (.iconst 0, 1) := by decide +kernel
theorem dX11_addWork_32 : decode mX11_addWork.2.1 32 = .ok (.invokevirtual 94, 3) := by decide +kernel
theorem dX11_addWork_35 : decode mX11_addWork.2.1 35 = .ok (.aload_n 0, 1) := by decide +kernel
theorem dX11_addWork_36 : decode mX11_addWork.2.1 36 = .ok (.iconst 5, 1) := by decide +kernel
theorem dX11_addWork_37 : decode mX11_addWork.2.1 37 = .ok (.aload_n 0, 1) := by decide +kernel
theorem dX11_addWork_38 : decode mX11_addWork.2.1 38 = .ok (.getfield 10, 3) := by decide +kernel
theorem dX11_addWork_41 : decode mX11_addWork.2.1 41 = .ok (.getfield 164, 3) := by decide +kernel
theorem dX11_addWork_44 : decode mX11_addWork.2.1 44 = .ok (.invokevirtual 100, 3) := by decide +kernel
theorem dX11_addWork_47 : decode mX11_addWork.2.1 47 = .ok (.ireturn, 1) := by decide +kernel
theorem dX11_land_0 : decode mX11_land.2.1 0 = .ok (.iload_n 1, 1) := by decide +kernel
theorem dX11_land_1 : decode mX11_land.2.1 1 = .ok (.invokestatic 67, 3) := by decide +kernel
theorem dX11_land_4 : decode mX11_land.2.1 4 = .ok (.ifCond .eq 24, 3) := by decide +kernel
theorem dX11_land_7 : decode mX11_land.2.1 7 = .ok (.iload_n 2, 1) := by decide +kernel
theorem dX11_land_8 : decode mX11_land.2.1 8 = .ok (.iconst 0, 1) := by decide +kernel
theorem dX11_land_9 : decode mX11_land.2.1 9 = .ok (.bipush 99, 2) := by decide +kernel
theorem dX11_land_11 : decode mX11_land.2.1 11 = .ok (.invokestatic 71, 3) := by decide +kernel
theorem dX11_land_14 : decode mX11_land.2.1 14 = .ok (.ifCond .eq 14, 3) := by decide +kernel
theorem dX11_land_17 : decode mX11_land.2.1 17 = .ok (.iload_n 3, 1) := by decide +kernel
theorem dX11_land_18 : decode mX11_land.2.1 18 = .ok (.iconst 0, 1) := by decide +kernel
theorem dX11_land_19 : decode mX11_land.2.1 19 = .ok (.sipush 999, 3) := by decide +kernel
theorem dX11_land_22 : decode mX11_land.2.1 22 = .ok (.invokestatic 71, 3) := by decide +kernel
theorem dX11_land_25 : decode mX11_land.2.1 25 = .ok (.ifCond .ne 5, 3) := by decide +kernel
theorem dX11_land_28 : decode mX11_land.2.1 28 = .ok (.iconst 0, 1) := by decide +kernel
theorem dX11_land_29 : decode mX11_land.2.1 29 = .ok (.ireturn, 1) := by decide +kernel
theorem dX11_land_30 : decode mX11_land.2.1 30 = .ok (.aload_n 0, 1) := by decide +kernel
theorem dX11_land_31 : decode mX11_land.2.1 31 = .ok (.iconst 0, 1) := by decide +kernel
theorem dX11_land_32 : decode mX11_land.2.1 32 = .ok (.iload_n 1, 1) := by decide +kernel
theorem dX11_land_33 : decode mX11_land.2.1 33 = .ok (.iload_n 2, 1) := by decide +kernel
theorem dX11_land_34 : decode mX11_land.2.1 34 = .ok (.iload_n 3, 1) := by decide +kernel
theorem dX11_land_35 : decode mX11_land.2.1 35 = .ok (.invokevirtual 75, 3) := by decide +kernel
theorem dX11_land_38 : decode mX11_land.2.1 38 = .ok (.ireturn, 1) := by decide +kernel
theorem dX11_set_0 : decode mX11_set.2.1 0 = .ok (.iload_n 1, 1) := by decide +kernel
theorem dX11_set_1 : decode mX11_set.2.1 1 = .ok (.iload_n 2, 1) := by decide +kernel
theorem dX11_set_2 : decode mX11_set.2.1 2 = .ok (.invokestatic 79, 3) := by decide +kernel
theorem dX11_set_5 : decode mX11_set.2.1 5 = .ok (.ifCond .ne 5, 3) := by decide +kernel
theorem dX11_set_8 : decode mX11_set.2.1 8 = .ok (.iconst 0, 1) := by decide +kernel
theorem dX11_set_9 : decode mX11_set.2.1 9 = .ok (.ireturn, 1) := by decide +kernel
theorem dX11_set_10 : decode mX11_set.2.1 10 = .ok (.aload_n 0, 1) := by decide +kernel
theorem dX11_set_11 : decode mX11_set.2.1 11 = .ok (.iconst 1, 1) := by decide +kernel
theorem dX11_set_12 : decode mX11_set.2.1 12 = .ok (.iload_n 1, 1) := by decide +kernel
theorem dX11_set_13 : decode mX11_set.2.1 13 = .ok (.iload_n 2, 1) := by decide +kernel
theorem dX11_set_14 : decode mX11_set.2.1 14 = .ok (.iconst 0, 1) := by decide +kernel
theorem dX11_set_15 : decode mX11_set.2.1 15 = .ok (.invokevirtual 75, 3) := by decide +kernel
theorem dX11_set_18 : decode mX11_set.2.1 18 = .ok (.ireturn, 1) := by decide +kernel
theorem dX11_rain_0 : decode mX11_rain.2.1 0 = .ok (.iload_n 1, 1) := by decide +kernel
theorem dX11_rain_1 : decode mX11_rain.2.1 1 = .ok (.aload_n 0, 1) := by decide +kernel
theorem dX11_rain_2 : decode mX11_rain.2.1 2 = .ok (.getfield 28, 3) := by decide +kernel
theorem dX11_rain_5 : decode mX11_rain.2.1 5 = .ok (.getfield 83, 3) := by decide +kernel
theorem dX11_rain_8 : decode mX11_rain.2.1 8 = .ok (.if_icmp .le 42, 3) := by decide +kernel
theorem dX11_rain_11 : decode mX11_rain.2.1 11 = .ok (.iload_n 1, 1) := by decide +kernel
theorem dX11_rain_12 : decode mX11_rain.2.1 12 = .ok (.iload_n 2, 1) := by decide +kernel
theorem dX11_rain_13 : decode mX11_rain.2.1 13 = .ok (.if_icmp .gt 37, 3) := by decide +kernel
theorem dX11_rain_16 : decode mX11_rain.2.1 16 = .ok (.iload_n 2, 1) := by decide +kernel
theorem dX11_rain_17 : decode mX11_rain.2.1 17 = .ok (.sipush 719, 3) := by decide +kernel
theorem dX11_rain_20 : decode mX11_rain.2.1 20 = .ok (.if_icmp .gt 30, 3) := by decide +kernel
theorem dX11_rain_23 : decode mX11_rain.2.1 23 = .ok (.iload_n 3, 1) := by decide +kernel
theorem dX11_rain_24 : decode mX11_rain.2.1 24 = .ok (.iconst 1, 1) := by decide +kernel
theorem dX11_rain_25 : decode mX11_rain.2.1 25 = .ok (.bipush 99, 2) := by decide +kernel
theorem dX11_rain_27 : decode mX11_rain.2.1 27 = .ok (.invokestatic 71, 3) := by decide +kernel
theorem dX11_rain_30 : decode mX11_rain.2.1 30 = .ok (.ifCond .eq 20, 3) := by decide +kernel
theorem dX11_rain_33 : decode mX11_rain.2.1 33 = .ok (.aload_n 0, 1) := by decide +kernel
theorem dX11_rain_34 : decode mX11_rain.2.1 34 = .ok (.getfield 10, 3) := by decide +kernel
theorem dX11_rain_37 : decode mX11_rain.2.1 37 = .ok (.aload_n 0, 1) := by decide +kernel
theorem dX11_rain_38 : decode mX11_rain.2.1 38 = .ok (.getfield 10, 3) := by decide +kernel
theorem dX11_rain_41 : decode mX11_rain.2.1 41 = .ok (.getfield 86, 3) := by decide +kernel
theorem dX11_rain_44 : decode mX11_rain.2.1 44 = .ok (.invokevirtual 90, 3) := by decide +kernel
theorem dX11_rain_47 : decode mX11_rain.2.1 47 = .ok (.ifCond .ne 5, 3) := by decide +kernel
theorem dX11_rain_50 : decode mX11_rain.2.1 50 = .ok (.iconst (-1), 1) := by decide +kernel
theorem dX11_rain_51 : decode mX11_rain.2.1 51 = .ok (.ireturn, 1) := by decide +kernel
theorem dX11_rain_52 : decode mX11_rain.2.1 52 = .ok (.aload_n 0, 1) := by decide +kernel
theorem dX11_rain_53 : decode mX11_rain.2.1 53 = .ok (.getfield 10, 3) := by decide +kernel
theorem dX11_rain_56 : decode mX11_rain.2.1 56 = .ok (.getfield 86, 3) := by decide +kernel
theorem dX11_rain_59 : decode mX11_rain.2.1 59 = .ok (.iload_n 1, 1) := by decide +kernel
theorem dX11_rain_60 : decode mX11_rain.2.1 60 = .ok (.iload_n 2, 1) := by decide +kernel
theorem dX11_rain_61 : decode mX11_rain.2.1 61 = .ok (.iload_n 3, 1) := by decide +kernel
theorem dX11_rain_62 : decode mX11_rain.2.1 62 = .ok (.iconst 0, 1) := by decide +kernel
theorem dX11_rain_63 : decode mX11_rain.2.1 63 = .ok (.iconst 0, 1) := by decide +kernel
theorem dX11_rain_64 : decode mX11_rain.2.1 64 = .ok (.iconst 0, 1) := by decide +kernel
theorem dX11_rain_65 : decode mX11_rain.2.1 65 = .ok (.invokevirtual 94, 3) := by decide +kernel
theorem dX11_rain_68 : decode mX11_rain.2.1 68 = .ok (.aload_n 0, 1) := by decide +kernel
theorem dX11_rain_69 : decode mX11_rain.2.1 69 = .ok (.iconst 2, 1) := by decide +kernel
theorem dX11_rain_70 : decode mX11_rain.2.1 70 = .ok (.aload_n 0, 1) := by decide +kernel
theorem dX11_rain_71 : decode mX11_rain.2.1 71 = .ok (.getfield 10, 3) := by decide +kernel
theorem dX11_rain_74 : decode mX11_rain.2.1 74 = .ok (.getfield 86, 3) := by decide +kernel
theorem dX11_rain_77 : decode mX11_rain.2.1 77 = .ok (.invokevirtual 100, 3) := by decide +kernel
theorem dX11_rain_80 : decode mX11_rain.2.1 80 = .ok (.ireturn, 1) := by decide +kernel
theorem dX11_cart_0 : decode mX11_cart.2.1 0 = .ok (.iload_n 1, 1) := by decide +kernel
theorem dX11_cart_1 : decode mX11_cart.2.1 1 = .ok (.iconst 0, 1) := by decide +kernel
theorem dX11_cart_2 : decode mX11_cart.2.1 2 = .ok (.iconst 3, 1) := by decide +kernel
theorem dX11_cart_3 : decode mX11_cart.2.1 3 = .ok (.invokestatic 71, 3) := by decide +kernel
theorem dX11_cart_6 : decode mX11_cart.2.1 6 = .ok (.ifCond .eq 63, 3) := by decide +kernel
theorem dX11_cart_9 : decode mX11_cart.2.1 9 = .ok (.iload_n 2, 1) := by decide +kernel
theorem dX11_cart_10 : decode mX11_cart.2.1 10 = .ok (.iconst 1, 1) := by decide +kernel
theorem dX11_cart_11 : decode mX11_cart.2.1 11 = .ok (.bipush 50, 2) := by decide +kernel
theorem dX11_cart_13 : decode mX11_cart.2.1 13 = .ok (.invokestatic 71, 3) := by decide +kernel
theorem dX11_cart_16 : decode mX11_cart.2.1 16 = .ok (.ifCond .eq 53, 3) := by decide +kernel
theorem dX11_cart_19 : decode mX11_cart.2.1 19 = .ok (.iload_n 3, 1) := by decide +kernel
theorem dX11_cart_20 : decode mX11_cart.2.1 20 = .ok (.bipush 50, 2) := by decide +kernel
theorem dX11_cart_22 : decode mX11_cart.2.1 22 = .ok (.sipush 999, 3) := by decide +kernel
theorem dX11_cart_25 : decode mX11_cart.2.1 25 = .ok (.invokestatic 71, 3) := by decide +kernel
theorem dX11_cart_28 : decode mX11_cart.2.1 28 = .ok (.ifCond .eq 41, 3) := by decide +kernel
theorem dX11_cart_31 : decode mX11_cart.2.1 31 = .ok (.iload 4, 2) := by decide +kernel
theorem dX11_cart_33 : decode mX11_cart.2.1 33 = .ok (.invokestatic 67, 3) := by decide +kernel
theorem dX11_cart_36 : decode mX11_cart.2.1 36 = .ok (.ifCond .eq 33, 3) := by decide +kernel
theorem dX11_cart_39 : decode mX11_cart.2.1 39 = .ok (.iload 5, 2) := by decide +kernel
theorem dX11_cart_41 : decode mX11_cart.2.1 41 = .ok (.bipush 10, 2) := by decide +kernel
theorem dX11_cart_43 : decode mX11_cart.2.1 43 = .ok (.sipush 500, 3) := by decide +kernel
theorem dX11_cart_46 : decode mX11_cart.2.1 46 = .ok (.invokestatic 71, 3) := by decide +kernel
theorem dX11_cart_49 : decode mX11_cart.2.1 49 = .ok (.ifCond .eq 20, 3) := by decide +kernel
theorem dX11_cart_52 : decode mX11_cart.2.1 52 = .ok (.aload_n 0, 1) := by decide +kernel
theorem dX11_cart_53 : decode mX11_cart.2.1 53 = .ok (.getfield 10, 3) := by decide +kernel
theorem dX11_cart_56 : decode mX11_cart.2.1 56 = .ok (.aload_n 0, 1) := by decide +kernel
theorem dX11_cart_57 : decode mX11_cart.2.1 57 = .ok (.getfield 10, 3) := by decide +kernel
theorem dX11_cart_60 : decode mX11_cart.2.1 60 = .ok (.getfield 104, 3) := by decide +kernel
theorem dX11_cart_63 : decode mX11_cart.2.1 63 = .ok (.invokevirtual 90, 3) := by decide +kernel
theorem dX11_cart_66 : decode mX11_cart.2.1 66 = .ok (.ifCond .ne 5, 3) := by decide +kernel
theorem dX11_cart_69 : decode mX11_cart.2.1 69 = .ok (.iconst (-1), 1) := by decide +kernel
theorem dX11_cart_70 : decode mX11_cart.2.1 70 = .ok (.ireturn, 1) := by decide +kernel
theorem dX11_cart_71 : decode mX11_cart.2.1 71 = .ok (.aload_n 0, 1) := by decide +kernel
theorem dX11_cart_72 : decode mX11_cart.2.1 72 = .ok (.getfield 10, 3) := by decide +kernel
theorem dX11_cart_75 : decode mX11_cart.2.1 75 = .ok (.getfield 104, 3) := by decide +kernel
theorem dX11_cart_78 : decode mX11_cart.2.1 78 = .ok (.iload_n 1, 1) := by decide +kernel
theorem dX11_cart_79 : decode mX11_cart.2.1 79 = .ok (.iload_n 2, 1) := by decide +kernel
theorem dX11_cart_80 : decode mX11_cart.2.1 80 = .ok (.iload_n 3, 1) := by decide +kernel
theorem dX11_cart_81 : decode mX11_cart.2.1 81 = .ok (.iload 4, 2) := by decide +kernel
theorem dX11_cart_83 : decode mX11_cart.2.1 83 = .ok (.iload 5, 2) := by decide +kernel
theorem dX11_cart_85 : decode mX11_cart.2.1 85 = .ok (.iconst 0, 1) := by decide +kernel
theorem dX11_cart_86 : decode mX11_cart.2.1 86 = .ok (.invokevirtual 94, 3) := by decide +kernel
theorem dX11_cart_89 : decode mX11_cart.2.1 89 = .ok (.aload_n 0, 1) := by decide +kernel
theorem dX11_cart_90 : decode mX11_cart.2.1 90 = .ok (.iconst 3, 1) := by decide +kernel
theorem dX11_cart_91 : decode mX11_cart.2.1 91 = .ok (.aload_n 0, 1) := by decide +kernel
theorem dX11_cart_92 : decode mX11_cart.2.1 92 = .ok (.getfield 10, 3) := by decide +kernel
theorem dX11_cart_95 : decode mX11_cart.2.1 95 = .ok (.getfield 104, 3) := by decide +kernel
theorem dX11_cart_98 : decode mX11_cart.2.1 98 = .ok (.invokevirtual 100, 3) := by decide +kernel
theorem dX11_cart_101 : decode mX11_cart.2.1 101 = .ok (.ireturn, 1) := by decide +kernel
theorem dX11_charge_0 : decode mX11_charge.2.1 0 = .ok (.aload_n 0, 1) := by decide +kernel
theorem dX11_charge_1 : decode mX11_charge.2.1 1 = .ok (.getfield 10, 3) := by decide +kernel
theorem dX11_charge_4 : decode mX11_charge.2.1 4 = .ok (.getfield 104, 3) := by decide +kernel
theorem dX11_charge_7 : decode mX11_charge.2.1 7 = .ok (.iload_n 1, 1) := by decide +kernel
theorem dX11_charge_8 : decode mX11_charge.2.1 8 = .ok (.invokevirtual 107, 3) := by decide +kernel
theorem dX11_charge_11 : decode mX11_charge.2.1 11 = .ok (.ifCond .eq 17, 3) := by decide +kernel
theorem dX11_charge_14 : decode mX11_charge.2.1 14 = .ok (.aload_n 0, 1) := by decide +kernel
theorem dX11_charge_15 : decode mX11_charge.2.1 15 = .ok (.getfield 28, 3) := by decide +kernel
theorem dX11_charge_18 : decode mX11_charge.2.1 18 = .ok (.getfield 110, 3) := by decide +kernel
theorem dX11_charge_21 : decode mX11_charge.2.1 21 = .ok (.iload_n 1, 1) := by decide +kernel
theorem dX11_charge_22 : decode mX11_charge.2.1 22 = .ok (.invokevirtual 114, 3) := by decide +kernel
theorem dX11_charge_25 : decode mX11_charge.2.1 25 = .ok (.ifCond .ne 5, 3) := by decide +kernel
theorem dX11_charge_28 : decode mX11_charge.2.1 28 = .ok (.iconst 0, 1) := by decide +kernel
theorem dX11_charge_29 : decode mX11_charge.2.1 29 = .ok (.ireturn, 1) := by decide +kernel
theorem dX11_charge_30 : decode mX11_charge.2.1 30 = .ok (.aload_n 0, 1) := by decide +kernel
theorem dX11_charge_31 : decode mX11_charge.2.1 31 = .ok (.iconst 4, 1) := by decide +kernel
theorem dX11_charge_32 : decode mX11_charge.2.1 32 = .ok (.iload_n 1, 1) := by decide +kernel
theorem dX11_charge_33 : decode mX11_charge.2.1 33 = .ok (.iconst 0, 1) := by decide +kernel
theorem dX11_charge_34 : decode mX11_charge.2.1 34 = .ok (.iconst 0, 1) := by decide +kernel
theorem dX11_charge_35 : decode mX11_charge.2.1 35 = .ok (.invokevirtual 75, 3) := by decide +kernel
theorem dX11_charge_38 : decode mX11_charge.2.1 38 = .ok (.ireturn, 1) := by decide +kernel
theorem dX11_work_0 : decode mX11_work.2.1 0 = .ok (.iload_n 1, 1) := by decide +kernel
theorem dX11_work_1 : decode mX11_work.2.1 1 = .ok (.iconst 0, 1) := by decide +kernel
theorem dX11_work_2 : decode mX11_work.2.1 2 = .ok (.iconst 3, 1) := by decide +kernel
theorem dX11_work_3 : decode mX11_work.2.1 3 = .ok (.invokestatic 71, 3) := by decide +kernel
theorem dX11_work_6 : decode mX11_work.2.1 6 = .ok (.ifCond .eq 10, 3) := by decide +kernel
theorem dX11_work_9 : decode mX11_work.2.1 9 = .ok (.iload_n 2, 1) := by decide +kernel
theorem dX11_work_10 : decode mX11_work.2.1 10 = .ok (.invokestatic 67, 3) := by decide +kernel
theorem dX11_work_13 : decode mX11_work.2.1 13 = .ok (.ifCond .ne 5, 3) := by decide +kernel
theorem dX11_work_16 : decode mX11_work.2.1 16 = .ok (.iconst (-1), 1) := by decide +kernel
theorem dX11_work_17 : decode mX11_work.2.1 17 = .ok (.ireturn, 1) := by decide +kernel
theorem dX11_work_18 : decode mX11_work.2.1 18 = .ok (.iload_n 1, 1) := by decide +kernel
theorem dX11_work_19 : decode mX11_work.2.1 19 = .ok (.iconst 2, 1) := by decide +kernel
theorem dX11_work_20 : decode mX11_work.2.1 20 = .ok (.if_icmp .ne 17, 3) := by decide +kernel
theorem dX11_work_23 : decode mX11_work.2.1 23 = .ok (.iload_n 3, 1) := by decide +kernel
theorem dX11_work_24 : decode mX11_work.2.1 24 = .ok (.iconst 1, 1) := by decide +kernel
theorem dX11_work_25 : decode mX11_work.2.1 25 = .ok (.sipush 999, 3) := by decide +kernel
theorem dX11_work_28 : decode mX11_work.2.1 28 = .ok (.invokestatic 71, 3) := by decide +kernel
theorem dX11_work_31 : decode mX11_work.2.1 31 = .ok (.ifCond .ne 12, 3) := by decide +kernel
theorem dX11_work_34 : decode mX11_work.2.1 34 = .ok (.goto 7, 3) := by decide +kernel
theorem dX11_work_37 : decode mX11_work.2.1 37 = .ok (.iload_n 3, 1) := by decide +kernel
theorem dX11_work_38 : decode mX11_work.2.1 38 = .ok (.ifCond .eq 5, 3) := by decide +kernel
theorem dX11_work_41 : decode mX11_work.2.1 41 = .ok (.iconst (-1), 1) := by decide +kernel
theorem dX11_work_42 : decode mX11_work.2.1 42 = .ok (.ireturn, 1) := by decide +kernel
theorem dX11_work_43 : decode mX11_work.2.1 43 = .ok (.aload_n 0, 1) := by decide +kernel
theorem dX11_work_44 : decode mX11_work.2.1 44 = .ok (.iload_n 1, 1) := by decide +kernel
theorem dX11_work_45 : decode mX11_work.2.1 45 = .ok (.iload_n 2, 1) := by decide +kernel
theorem dX11_work_46 : decode mX11_work.2.1 46 = .ok (.iload_n 3, 1) := by decide +kernel
theorem dX11_work_47 : decode mX11_work.2.1 47 = .ok (.invokevirtual 119, 3) := by decide +kernel
theorem dX11_work_50 : decode mX11_work.2.1 50 = .ok (.ireturn, 1) := by decide +kernel
theorem dX11_lot_0 : decode mX11_lot.2.1 0 = .ok (.iload_n 1, 1) := by decide +kernel
theorem dX11_lot_1 : decode mX11_lot.2.1 1 = .ok (.iconst 0, 1) := by decide +kernel
theorem dX11_lot_2 : decode mX11_lot.2.1 2 = .ok (.bipush 99, 2) := by decide +kernel
theorem dX11_lot_4 : decode mX11_lot.2.1 4 = .ok (.invokestatic 71, 3) := by decide +kernel
theorem dX11_lot_7 : decode mX11_lot.2.1 7 = .ok (.ifCond .eq 20, 3) := by decide +kernel
theorem dX11_lot_10 : decode mX11_lot.2.1 10 = .ok (.aload_n 0, 1) := by decide +kernel
theorem dX11_lot_11 : decode mX11_lot.2.1 11 = .ok (.getfield 10, 3) := by decide +kernel
theorem dX11_lot_14 : decode mX11_lot.2.1 14 = .ok (.aload_n 0, 1) := by decide +kernel
theorem dX11_lot_15 : decode mX11_lot.2.1 15 = .ok (.getfield 10, 3) := by decide +kernel
theorem dX11_lot_18 : decode mX11_lot.2.1 18 = .ok (.getfield 123, 3) := by decide +kernel
theorem dX11_lot_21 : decode mX11_lot.2.1 21 = .ok (.invokevirtual 90, 3) := by decide +kernel
theorem dX11_lot_24 : decode mX11_lot.2.1 24 = .ok (.ifCond .ne 5, 3) := by decide +kernel
theorem dX11_lot_27 : decode mX11_lot.2.1 27 = .ok (.iconst (-1), 1) := by decide +kernel
theorem dX11_lot_28 : decode mX11_lot.2.1 28 = .ok (.ireturn, 1) := by decide +kernel
theorem dX11_lot_29 : decode mX11_lot.2.1 29 = .ok (.aload_n 0, 1) := by decide +kernel
theorem dX11_lot_30 : decode mX11_lot.2.1 30 = .ok (.getfield 10, 3) := by decide +kernel
theorem dX11_lot_33 : decode mX11_lot.2.1 33 = .ok (.getfield 123, 3) := by decide +kernel
theorem dX11_lot_36 : decode mX11_lot.2.1 36 = .ok (.iload_n 1, 1) := by decide +kernel
theorem dX11_lot_37 : decode mX11_lot.2.1 37 = .ok (.iconst 0, 1) := by decide +kernel
theorem dX11_lot_38 : decode mX11_lot.2.1 38 = .ok (.iconst 0, 1) := by decide +kernel
theorem dX11_lot_39 : decode mX11_lot.2.1 39 = .ok (.iconst 0, 1) := by decide +kernel
theorem dX11_lot_40 : decode mX11_lot.2.1 40 = .ok (.iconst 0, 1) := by decide +kernel
theorem dX11_lot_41 : decode mX11_lot.2.1 41 = .ok (.iconst 0, 1) := by decide +kernel
theorem dX11_lot_42 : decode mX11_lot.2.1 42 = .ok (.invokevirtual 94, 3) := by decide +kernel
theorem dX11_lot_45 : decode mX11_lot.2.1 45 = .ok (.aload_n 0, 1) := by decide +kernel
theorem dX11_lot_46 : decode mX11_lot.2.1 46 = .ok (.bipush 6, 2) := by decide +kernel
theorem dX11_lot_48 : decode mX11_lot.2.1 48 = .ok (.aload_n 0, 1) := by decide +kernel
theorem dX11_lot_49 : decode mX11_lot.2.1 49 = .ok (.getfield 10, 3) := by decide +kernel
theorem dX11_lot_52 : decode mX11_lot.2.1 52 = .ok (.getfield 123, 3) := by decide +kernel
theorem dX11_lot_55 : decode mX11_lot.2.1 55 = .ok (.invokevirtual 100, 3) := by decide +kernel
theorem dX11_lot_58 : decode mX11_lot.2.1 58 = .ok (.iconst 1, 1) := by decide +kernel
theorem dX11_lot_59 : decode mX11_lot.2.1 59 = .ok (.iadd, 1) := by decide +kernel
theorem dX11_lot_60 : decode mX11_lot.2.1 60 = .ok (.ireturn, 1) := by decide +kernel
theorem dX11_kind_0 : decode mX11_kind.2.1 0 = .ok (.iload_n 2, 1) := by decide +kernel
theorem dX11_kind_1 : decode mX11_kind.2.1 1 = .ok (.iconst 1, 1) := by decide +kernel
theorem dX11_kind_2 : decode mX11_kind.2.1 2 = .ok (.bipush 100, 2) := by decide +kernel
theorem dX11_kind_4 : decode mX11_kind.2.1 4 = .ok (.invokestatic 71, 3) := by decide +kernel
theorem dX11_kind_7 : decode mX11_kind.2.1 7 = .ok (.ifCond .eq 51, 3) := by decide +kernel
theorem dX11_kind_10 : decode mX11_kind.2.1 10 = .ok (.iload_n 3, 1) := by decide +kernel
theorem dX11_kind_11 : decode mX11_kind.2.1 11 = .ok (.invokestatic 126, 3) := by decide +kernel
theorem dX11_kind_14 : decode mX11_kind.2.1 14 = .ok (.ifCond .eq 44, 3) := by decide +kernel
theorem dX11_kind_17 : decode mX11_kind.2.1 17 = .ok (.iload 4, 2) := by decide +kernel
theorem dX11_kind_19 : decode mX11_kind.2.1 19 = .ok (.invokestatic 126, 3) := by decide +kernel
theorem dX11_kind_22 : decode mX11_kind.2.1 22 = .ok (.ifCond .eq 36, 3) := by decide +kernel
theorem dX11_kind_25 : decode mX11_kind.2.1 25 = .ok (.iload 5, 2) := by decide +kernel
theorem dX11_kind_27 : decode mX11_kind.2.1 27 = .ok (.invokestatic 126, 3) := by decide +kernel
theorem dX11_kind_30 : decode mX11_kind.2.1 30 = .ok (.ifCond .eq 28, 3) := by decide +kernel
theorem dX11_kind_33 : decode mX11_kind.2.1 33 = .ok (.iload 6, 2) := by decide +kernel
theorem dX11_kind_35 : decode mX11_kind.2.1 35 = .ok (.invokestatic 126, 3) := by decide +kernel
theorem dX11_kind_38 : decode mX11_kind.2.1 38 = .ok (.ifCond .eq 20, 3) := by decide +kernel
theorem dX11_kind_41 : decode mX11_kind.2.1 41 = .ok (.aload_n 0, 1) := by decide +kernel
theorem dX11_kind_42 : decode mX11_kind.2.1 42 = .ok (.getfield 10, 3) := by decide +kernel
theorem dX11_kind_45 : decode mX11_kind.2.1 45 = .ok (.aload_n 0, 1) := by decide +kernel
theorem dX11_kind_46 : decode mX11_kind.2.1 46 = .ok (.getfield 10, 3) := by decide +kernel
theorem dX11_kind_49 : decode mX11_kind.2.1 49 = .ok (.getfield 129, 3) := by decide +kernel
theorem dX11_kind_52 : decode mX11_kind.2.1 52 = .ok (.invokevirtual 90, 3) := by decide +kernel
theorem dX11_kind_55 : decode mX11_kind.2.1 55 = .ok (.ifCond .ne 5, 3) := by decide +kernel
theorem dX11_kind_58 : decode mX11_kind.2.1 58 = .ok (.iconst (-1), 1) := by decide +kernel
theorem dX11_kind_59 : decode mX11_kind.2.1 59 = .ok (.ireturn, 1) := by decide +kernel
theorem dX11_kind_60 : decode mX11_kind.2.1 60 = .ok (.aload_n 0, 1) := by decide +kernel
theorem dX11_kind_61 : decode mX11_kind.2.1 61 = .ok (.getfield 10, 3) := by decide +kernel
theorem dX11_kind_64 : decode mX11_kind.2.1 64 = .ok (.getfield 129, 3) := by decide +kernel
theorem dX11_kind_67 : decode mX11_kind.2.1 67 = .ok (.iload_n 1, 1) := by decide +kernel
theorem dX11_kind_68 : decode mX11_kind.2.1 68 = .ok (.ifCond .eq 7, 3) := by decide +kernel
theorem dX11_kind_71 : decode mX11_kind.2.1 71 = .ok (.iconst 1, 1) := by decide +kernel
theorem dX11_kind_72 : decode mX11_kind.2.1 72 = .ok (.goto 4, 3) := by decide +kernel
theorem dX11_kind_75 : decode mX11_kind.2.1 75 = .ok (.iconst 0, 1) := by decide +kernel
theorem dX11_kind_76 : decode mX11_kind.2.1 76 = .ok (.iload_n 2, 1) := by decide +kernel
theorem dX11_kind_77 : decode mX11_kind.2.1 77 = .ok (.iload_n 3, 1) := by decide +kernel
theorem dX11_kind_78 : decode mX11_kind.2.1 78 = .ok (.iload 4, 2) := by decide +kernel
theorem dX11_kind_80 : decode mX11_kind.2.1 80 = .ok (.iload 5, 2) := by decide +kernel
theorem dX11_kind_82 : decode mX11_kind.2.1 82 = .ok (.iload 6, 2) := by decide +kernel
theorem dX11_kind_84 : decode mX11_kind.2.1 84 = .ok (.invokevirtual 94, 3) := by decide +kernel
theorem dX11_kind_87 : decode mX11_kind.2.1 87 = .ok (.aload_n 0, 1) := by decide +kernel
theorem dX11_kind_88 : decode mX11_kind.2.1 88 = .ok (.bipush 7, 2) := by decide +kernel
theorem dX11_kind_90 : decode mX11_kind.2.1 90 = .ok (.aload_n 0, 1) := by decide +kernel
theorem dX11_kind_91 : decode mX11_kind.2.1 91 = .ok (.getfield 10, 3) := by decide +kernel
theorem dX11_kind_94 : decode mX11_kind.2.1 94 = .ok (.getfield 129, 3) := by decide +kernel
theorem dX11_kind_97 : decode mX11_kind.2.1 97 = .ok (.invokevirtual 100, 3) := by decide +kernel
theorem dX11_kind_100 : decode mX11_kind.2.1 100 = .ok (.ireturn, 1) := by decide +kernel
theorem dX11_plant_0 : decode mX11_plant.2.1 0 = .ok (.iload_n 1, 1) := by decide +kernel
theorem dX11_plant_1 : decode mX11_plant.2.1 1 = .ok (.invokestatic 67, 3) := by decide +kernel
theorem dX11_plant_4 : decode mX11_plant.2.1 4 = .ok (.ifCond .eq 30, 3) := by decide +kernel
theorem dX11_plant_7 : decode mX11_plant.2.1 7 = .ok (.aload_n 0, 1) := by decide +kernel
theorem dX11_plant_8 : decode mX11_plant.2.1 8 = .ok (.getfield 28, 3) := by decide +kernel
theorem dX11_plant_11 : decode mX11_plant.2.1 11 = .ok (.getfield 132, 3) := by decide +kernel
theorem dX11_plant_14 : decode mX11_plant.2.1 14 = .ok (.iload_n 1, 1) := by decide +kernel
theorem dX11_plant_15 : decode mX11_plant.2.1 15 = .ok (.invokevirtual 136, 3) := by decide +kernel
theorem dX11_plant_18 : decode mX11_plant.2.1 18 = .ok (.ifCond .ne 16, 3) := by decide +kernel
theorem dX11_plant_21 : decode mX11_plant.2.1 21 = .ok (.aload_n 0, 1) := by decide +kernel
theorem dX11_plant_22 : decode mX11_plant.2.1 22 = .ok (.getfield 10, 3) := by decide +kernel
theorem dX11_plant_25 : decode mX11_plant.2.1 25 = .ok (.getfield 129, 3) := by decide +kernel
theorem dX11_plant_28 : decode mX11_plant.2.1 28 = .ok (.getfield 141, 3) := by decide +kernel
theorem dX11_plant_31 : decode mX11_plant.2.1 31 = .ok (.ifCond .ne 5, 3) := by decide +kernel
theorem dX11_plant_34 : decode mX11_plant.2.1 34 = .ok (.iconst 0, 1) := by decide +kernel
theorem dX11_plant_35 : decode mX11_plant.2.1 35 = .ok (.ireturn, 1) := by decide +kernel
theorem dX11_plant_36 : decode mX11_plant.2.1 36 = .ok (.aload_n 0, 1) := by decide +kernel
theorem dX11_plant_37 : decode mX11_plant.2.1 37 = .ok (.bipush 8, 2) := by decide +kernel
theorem dX11_plant_39 : decode mX11_plant.2.1 39 = .ok (.iload_n 1, 1) := by decide +kernel
theorem dX11_plant_40 : decode mX11_plant.2.1 40 = .ok (.iconst 0, 1) := by decide +kernel
theorem dX11_plant_41 : decode mX11_plant.2.1 41 = .ok (.iconst 0, 1) := by decide +kernel
theorem dX11_plant_42 : decode mX11_plant.2.1 42 = .ok (.invokevirtual 75, 3) := by decide +kernel
theorem dX11_plant_45 : decode mX11_plant.2.1 45 = .ok (.ireturn, 1) := by decide +kernel
theorem dX11_show_0 : decode mX11_show.2.1 0 = .ok (.iload_n 1, 1) := by decide +kernel
theorem dX11_show_1 : decode mX11_show.2.1 1 = .ok (.invokestatic 67, 3) := by decide +kernel
theorem dX11_show_4 : decode mX11_show.2.1 4 = .ok (.ifCond .eq 10, 3) := by decide +kernel
theorem dX11_show_7 : decode mX11_show.2.1 7 = .ok (.iload_n 2, 1) := by decide +kernel
theorem dX11_show_8 : decode mX11_show.2.1 8 = .ok (.invokestatic 144, 3) := by decide +kernel
theorem dX11_show_11 : decode mX11_show.2.1 11 = .ok (.ifCond .ne 5, 3) := by decide +kernel
theorem dX11_show_14 : decode mX11_show.2.1 14 = .ok (.iconst 0, 1) := by decide +kernel
theorem dX11_show_15 : decode mX11_show.2.1 15 = .ok (.ireturn, 1) := by decide +kernel
theorem dX11_show_16 : decode mX11_show.2.1 16 = .ok (.aload_n 0, 1) := by decide +kernel
theorem dX11_show_17 : decode mX11_show.2.1 17 = .ok (.bipush 9, 2) := by decide +kernel
theorem dX11_show_19 : decode mX11_show.2.1 19 = .ok (.iload_n 1, 1) := by decide +kernel
theorem dX11_show_20 : decode mX11_show.2.1 20 = .ok (.iload_n 2, 1) := by decide +kernel
theorem dX11_show_21 : decode mX11_show.2.1 21 = .ok (.iconst 0, 1) := by decide +kernel
theorem dX11_show_22 : decode mX11_show.2.1 22 = .ok (.invokevirtual 75, 3) := by decide +kernel
theorem dX11_show_25 : decode mX11_show.2.1 25 = .ok (.ireturn, 1) := by decide +kernel
theorem dX11_look_0 : decode mX11_look.2.1 0 = .ok (.aload_n 0, 1) := by decide +kernel
theorem dX11_look_1 : decode mX11_look.2.1 1 = .ok (.getfield 28, 3) := by decide +kernel
theorem dX11_look_4 : decode mX11_look.2.1 4 = .ok (.getfield 132, 3) := by decide +kernel
theorem dX11_look_7 : decode mX11_look.2.1 7 = .ok (.iload_n 1, 1) := by decide +kernel
theorem dX11_look_8 : decode mX11_look.2.1 8 = .ok (.invokevirtual 136, 3) := by decide +kernel
theorem dX11_look_11 : decode mX11_look.2.1 11 = .ok (.ifCond .eq 10, 3) := by decide +kernel
theorem dX11_look_14 : decode mX11_look.2.1 14 = .ok (.iload_n 2, 1) := by decide +kernel
theorem dX11_look_15 : decode mX11_look.2.1 15 = .ok (.invokestatic 144, 3) := by decide +kernel
theorem dX11_look_18 : decode mX11_look.2.1 18 = .ok (.ifCond .ne 5, 3) := by decide +kernel
theorem dX11_look_21 : decode mX11_look.2.1 21 = .ok (.iconst 0, 1) := by decide +kernel
theorem dX11_look_22 : decode mX11_look.2.1 22 = .ok (.ireturn, 1) := by decide +kernel
theorem dX11_look_23 : decode mX11_look.2.1 23 = .ok (.aload_n 0, 1) := by decide +kernel
theorem dX11_look_24 : decode mX11_look.2.1 24 = .ok (.bipush 10, 2) := by decide +kernel
theorem dX11_look_26 : decode mX11_look.2.1 26 = .ok (.iload_n 1, 1) := by decide +kernel
theorem dX11_look_27 : decode mX11_look.2.1 27 = .ok (.iload_n 2, 1) := by decide +kernel
theorem dX11_look_28 : decode mX11_look.2.1 28 = .ok (.iconst 0, 1) := by decide +kernel
theorem dX11_look_29 : decode mX11_look.2.1 29 = .ok (.invokevirtual 75, 3) := by decide +kernel
theorem dX11_look_32 : decode mX11_look.2.1 32 = .ok (.ireturn, 1) := by decide +kernel
theorem dX11_ill_0 : decode mX11_ill.2.1 0 = .ok (.aload_n 0, 1) := by decide +kernel
theorem dX11_ill_1 : decode mX11_ill.2.1 1 = .ok (.getfield 28, 3) := by decide +kernel
theorem dX11_ill_4 : decode mX11_ill.2.1 4 = .ok (.getfield 132, 3) := by decide +kernel
theorem dX11_ill_7 : decode mX11_ill.2.1 7 = .ok (.iload_n 1, 1) := by decide +kernel
theorem dX11_ill_8 : decode mX11_ill.2.1 8 = .ok (.invokevirtual 136, 3) := by decide +kernel
theorem dX11_ill_11 : decode mX11_ill.2.1 11 = .ok (.ifCond .eq 18, 3) := by decide +kernel
theorem dX11_ill_14 : decode mX11_ill.2.1 14 = .ok (.aload_n 0, 1) := by decide +kernel
theorem dX11_ill_15 : decode mX11_ill.2.1 15 = .ok (.getfield 28, 3) := by decide +kernel
theorem dX11_ill_18 : decode mX11_ill.2.1 18 = .ok (.getfield 132, 3) := by decide +kernel
theorem dX11_ill_21 : decode mX11_ill.2.1 21 = .ok (.iload_n 1, 1) := by decide +kernel
theorem dX11_ill_22 : decode mX11_ill.2.1 22 = .ok (.invokevirtual 147, 3) := by decide +kernel
theorem dX11_ill_25 : decode mX11_ill.2.1 25 = .ok (.iload_n 2, 1) := by decide +kernel
theorem dX11_ill_26 : decode mX11_ill.2.1 26 = .ok (.if_icmp .ne 5, 3) := by decide +kernel
theorem dX11_ill_29 : decode mX11_ill.2.1 29 = .ok (.iconst 0, 1) := by decide +kernel
theorem dX11_ill_30 : decode mX11_ill.2.1 30 = .ok (.ireturn, 1) := by decide +kernel
theorem dX11_ill_31 : decode mX11_ill.2.1 31 = .ok (.aload_n 0, 1) := by decide +kernel
theorem dX11_ill_32 : decode mX11_ill.2.1 32 = .ok (.bipush 11, 2) := by decide +kernel
theorem dX11_ill_34 : decode mX11_ill.2.1 34 = .ok (.iload_n 1, 1) := by decide +kernel
theorem dX11_ill_35 : decode mX11_ill.2.1 35 = .ok (.iload_n 2, 1) := by decide +kernel
theorem dX11_ill_36 : decode mX11_ill.2.1 36 = .ok (.ifCond .eq 7, 3) := by decide +kernel
theorem dX11_ill_39 : decode mX11_ill.2.1 39 = .ok (.iconst 1, 1) := by decide +kernel
theorem dX11_ill_40 : decode mX11_ill.2.1 40 = .ok (.goto 4, 3) := by decide +kernel
theorem dX11_ill_43 : decode mX11_ill.2.1 43 = .ok (.iconst 0, 1) := by decide +kernel
theorem dX11_ill_44 : decode mX11_ill.2.1 44 = .ok (.iconst 0, 1) := by decide +kernel
theorem dX11_ill_45 : decode mX11_ill.2.1 45 = .ok (.invokevirtual 75, 3) := by decide +kernel
theorem dX11_ill_48 : decode mX11_ill.2.1 48 = .ok (.ireturn, 1) := by decide +kernel
theorem dX11_findsAct_0 : decode mX11_findsAct.2.1 0 = .ok (.aload_n 0, 1) := by decide +kernel
theorem dX11_findsAct_1 : decode mX11_findsAct.2.1 1 = .ok (.getfield 28, 3) := by decide +kernel
theorem dX11_findsAct_4 : decode mX11_findsAct.2.1 4 = .ok (.getfield 132, 3) := by decide +kernel
theorem dX11_findsAct_7 : decode mX11_findsAct.2.1 7 = .ok (.iload_n 1, 1) := by decide +kernel
theorem dX11_findsAct_8 : decode mX11_findsAct.2.1 8 = .ok (.invokevirtual 136, 3) := by decide +kernel
theorem dX11_findsAct_11 : decode mX11_findsAct.2.1 11 = .ok (.ifCond .ne 5, 3) := by decide +kernel
theorem dX11_findsAct_14 : decode mX11_findsAct.2.1 14 = .ok (.iconst 0, 1) := by decide +kernel
theorem dX11_findsAct_15 : decode mX11_findsAct.2.1 15 = .ok (.ireturn, 1) := by decide +kernel
theorem dX11_findsAct_16 : decode mX11_findsAct.2.1 16 = .ok (.aload_n 0, 1) := by decide +kernel
theorem dX11_findsAct_17 : decode mX11_findsAct.2.1 17 = .ok (.getfield 28, 3) := by decide +kernel
theorem dX11_findsAct_20 : decode mX11_findsAct.2.1 20 = .ok (.iload_n 1, 1) := by decide +kernel
theorem dX11_findsAct_21 : decode mX11_findsAct.2.1 21 = .ok (.aload_n 0, 1) := by decide +kernel
theorem dX11_findsAct_22 : decode mX11_findsAct.2.1 22 = .ok (.getfield 56, 3) := by decide +kernel
theorem dX11_findsAct_25 : decode mX11_findsAct.2.1 25 = .ok (.invokevirtual 326, 3) := by decide +kernel
theorem dX11_findsAct_28 : decode mX11_findsAct.2.1 28 = .ok (.aload_n 0, 1) := by decide +kernel
theorem dX11_findsAct_29 : decode mX11_findsAct.2.1 29 = .ok (.getfield 45, 3) := by decide +kernel
theorem dX11_findsAct_32 : decode mX11_findsAct.2.1 32 = .ok (.aload_n 0, 1) := by decide +kernel
theorem dX11_findsAct_33 : decode mX11_findsAct.2.1 33 = .ok (.getfield 56, 3) := by decide +kernel
theorem dX11_findsAct_36 : decode mX11_findsAct.2.1 36 = .ok (.invokevirtual 330, 3) := by decide +kernel
theorem dX11_findsAct_39 : decode mX11_findsAct.2.1 39 = .ok (.ireturn, 1) := by decide +kernel
theorem dX11_pass_0 : decode mX11_pass.2.1 0 = .ok (.iload_n 1, 1) := by decide +kernel
theorem dX11_pass_1 : decode mX11_pass.2.1 1 = .ok (.iconst 1, 1) := by decide +kernel
theorem dX11_pass_2 : decode mX11_pass.2.1 2 = .ok (.sipush 200, 3) := by decide +kernel
theorem dX11_pass_5 : decode mX11_pass.2.1 5 = .ok (.invokestatic 71, 3) := by decide +kernel
theorem dX11_pass_8 : decode mX11_pass.2.1 8 = .ok (.ifCond .eq 18, 3) := by decide +kernel
theorem dX11_pass_11 : decode mX11_pass.2.1 11 = .ok (.aload_n 0, 1) := by decide +kernel
theorem dX11_pass_12 : decode mX11_pass.2.1 12 = .ok (.getfield 28, 3) := by decide +kernel
theorem dX11_pass_15 : decode mX11_pass.2.1 15 = .ok (.getfield 83, 3) := by decide +kernel
theorem dX11_pass_18 : decode mX11_pass.2.1 18 = .ok (.iload_n 1, 1) := by decide +kernel
theorem dX11_pass_19 : decode mX11_pass.2.1 19 = .ok (.iadd, 1) := by decide +kernel
theorem dX11_pass_20 : decode mX11_pass.2.1 20 = .ok (.sipush 719, 3) := by decide +kernel
theorem dX11_pass_23 : decode mX11_pass.2.1 23 = .ok (.if_icmp .le 5, 3) := by decide +kernel
theorem dX11_pass_26 : decode mX11_pass.2.1 26 = .ok (.iconst (-1), 1) := by decide +kernel
theorem dX11_pass_27 : decode mX11_pass.2.1 27 = .ok (.ireturn, 1) := by decide +kernel
theorem dX11_pass_28 : decode mX11_pass.2.1 28 = .ok (.aload_n 0, 1) := by decide +kernel
theorem dX11_pass_29 : decode mX11_pass.2.1 29 = .ok (.getfield 28, 3) := by decide +kernel
theorem dX11_pass_32 : decode mX11_pass.2.1 32 = .ok (.aload_n 0, 1) := by decide +kernel
theorem dX11_pass_33 : decode mX11_pass.2.1 33 = .ok (.getfield 28, 3) := by decide +kernel
theorem dX11_pass_36 : decode mX11_pass.2.1 36 = .ok (.getfield 83, 3) := by decide +kernel
theorem dX11_pass_39 : decode mX11_pass.2.1 39 = .ok (.iload_n 1, 1) := by decide +kernel
theorem dX11_pass_40 : decode mX11_pass.2.1 40 = .ok (.iadd, 1) := by decide +kernel
theorem dX11_pass_41 : decode mX11_pass.2.1 41 = .ok (.invokevirtual 150, 3) := by decide +kernel
theorem dX11_pass_44 : decode mX11_pass.2.1 44 = .ok (.aload_n 0, 1) := by decide +kernel
theorem dX11_pass_45 : decode mX11_pass.2.1 45 = .ok (.getfield 28, 3) := by decide +kernel
theorem dX11_pass_48 : decode mX11_pass.2.1 48 = .ok (.getfield 83, 3) := by decide +kernel
theorem dX11_pass_51 : decode mX11_pass.2.1 51 = .ok (.ireturn, 1) := by decide +kernel
theorem dX11_act_0 : decode mX11_act.2.1 0 = .ok (.aload_n 0, 1) := by decide +kernel
theorem dX11_act_1 : decode mX11_act.2.1 1 = .ok (.iload_n 1, 1) := by decide +kernel
theorem dX11_act_2 : decode mX11_act.2.1 2 = .ok (.invokevirtual 274, 3) := by decide +kernel
theorem dX11_act_5 : decode mX11_act.2.1 5 = .ok (.ifCond .ne 6, 3) := by decide +kernel
theorem dX11_act_8 : decode mX11_act.2.1 8 = .ok (.ldc 248, 2) := by decide +kernel
theorem dX11_act_10 : decode mX11_act.2.1 10 = .ok (.ireturn, 1) := by decide +kernel
theorem dX11_act_11 : decode mX11_act.2.1 11 = .ok (.iload_n 2, 1) := by decide +kernel
theorem dX11_act_12 : decode mX11_act.2.1 12 = .ok (.tableswitch 67 0 2 #[28, 36, 44], 28) := by decide +kernel
theorem dX11_act_40 : decode mX11_act.2.1 40 = .ok (.aload_n 0, 1) := by decide +kernel
theorem dX11_act_41 : decode mX11_act.2.1 41 = .ok (.getfield 45, 3) := by decide +kernel
theorem dX11_act_44 : decode mX11_act.2.1 44 = .ok (.getfield 277, 3) := by decide +kernel
theorem dX11_act_47 : decode mX11_act.2.1 47 = .ok (.ireturn, 1) := by decide +kernel
theorem dX11_act_48 : decode mX11_act.2.1 48 = .ok (.aload_n 0, 1) := by decide +kernel
theorem dX11_act_49 : decode mX11_act.2.1 49 = .ok (.getfield 45, 3) := by decide +kernel
theorem dX11_act_52 : decode mX11_act.2.1 52 = .ok (.getfield 280, 3) := by decide +kernel
theorem dX11_act_55 : decode mX11_act.2.1 55 = .ok (.ireturn, 1) := by decide +kernel
theorem dX11_act_56 : decode mX11_act.2.1 56 = .ok (.aload_n 0, 1) := by decide +kernel
theorem dX11_act_57 : decode mX11_act.2.1 57 = .ok (.getfield 45, 3) := by decide +kernel
theorem dX11_act_60 : decode mX11_act.2.1 60 = .ok (.getfield 280, 3) := by decide +kernel
theorem dX11_act_63 : decode mX11_act.2.1 63 = .ok (.iconst 3, 1) := by decide +kernel
theorem dX11_act_64 : decode mX11_act.2.1 64 = .ok (.if_icmp .ne 13, 3) := by decide +kernel
theorem dX11_act_67 : decode mX11_act.2.1 67 = .ok (.aload_n 0, 1) := by decide +kernel
theorem dX11_act_68 : decode mX11_act.2.1 68 = .ok (.getfield 45, 3) := by decide +kernel
theorem dX11_act_71 : decode mX11_act.2.1 71 = .ok (.getfield 283, 3) := by decide +kernel
theorem dX11_act_74 : decode mX11_act.2.1 74 = .ok (.goto 4, 3) := by decide +kernel
theorem dX11_act_77 : decode mX11_act.2.1 77 = .ok (.iconst 0, 1) := by decide +kernel
theorem dX11_act_78 : decode mX11_act.2.1 78 = .ok (.ireturn, 1) := by decide +kernel
theorem dX11_act_79 : decode mX11_act.2.1 79 = .ok (.ldc 248, 2) := by decide +kernel
theorem dX11_act_81 : decode mX11_act.2.1 81 = .ok (.ireturn, 1) := by decide +kernel
theorem dX11_plan_0 : decode mX11_plan.2.1 0 = .ok (.aload_n 0, 1) := by decide +kernel
theorem dX11_plan_1 : decode mX11_plan.2.1 1 = .ok (.iload_n 1, 1) := by decide +kernel
theorem dX11_plan_2 : decode mX11_plan.2.1 2 = .ok (.invokevirtual 274, 3) := by decide +kernel
theorem dX11_plan_5 : decode mX11_plan.2.1 5 = .ok (.ifCond .ne 5, 3) := by decide +kernel
theorem dX11_plan_8 : decode mX11_plan.2.1 8 = .ok (.iconst (-1), 1) := by decide +kernel
theorem dX11_plan_9 : decode mX11_plan.2.1 9 = .ok (.ireturn, 1) := by decide +kernel
theorem dX11_plan_10 : decode mX11_plan.2.1 10 = .ok (.aload_n 0, 1) := by decide +kernel
theorem dX11_plan_11 : decode mX11_plan.2.1 11 = .ok (.getfield 45, 3) := by decide +kernel
theorem dX11_plan_14 : decode mX11_plan.2.1 14 = .ok (.getfield 280, 3) := by decide +kernel
theorem dX11_plan_17 : decode mX11_plan.2.1 17 = .ok (.tableswitch 71 0 3 #[31, 39, 71, 47], 31) := by decide +kernel
theorem dX11_plan_48 : decode mX11_plan.2.1 48 = .ok (.aload_n 0, 1) := by decide +kernel
theorem dX11_plan_49 : decode mX11_plan.2.1 49 = .ok (.iconst 1, 1) := by decide +kernel
theorem dX11_plan_50 : decode mX11_plan.2.1 50 = .ok (.iload_n 1, 1) := by decide +kernel
theorem dX11_plan_51 : decode mX11_plan.2.1 51 = .ok (.iconst 0, 1) := by decide +kernel
theorem dX11_plan_52 : decode mX11_plan.2.1 52 = .ok (.invokevirtual 119, 3) := by decide +kernel
theorem dX11_plan_55 : decode mX11_plan.2.1 55 = .ok (.ireturn, 1) := by decide +kernel
theorem dX11_plan_56 : decode mX11_plan.2.1 56 = .ok (.aload_n 0, 1) := by decide +kernel
theorem dX11_plan_57 : decode mX11_plan.2.1 57 = .ok (.iconst 0, 1) := by decide +kernel
theorem dX11_plan_58 : decode mX11_plan.2.1 58 = .ok (.iload_n 1, 1) := by decide +kernel
theorem dX11_plan_59 : decode mX11_plan.2.1 59 = .ok (.iconst 0, 1) := by decide +kernel
theorem dX11_plan_60 : decode mX11_plan.2.1 60 = .ok (.invokevirtual 119, 3) := by decide +kernel
theorem dX11_plan_63 : decode mX11_plan.2.1 63 = .ok (.ireturn, 1) := by decide +kernel
theorem dX11_plan_64 : decode mX11_plan.2.1 64 = .ok (.aload_n 0, 1) := by decide +kernel
theorem dX11_plan_65 : decode mX11_plan.2.1 65 = .ok (.iconst 2, 1) := by decide +kernel
theorem dX11_plan_66 : decode mX11_plan.2.1 66 = .ok (.iload_n 1, 1) := by decide +kernel
theorem dX11_plan_67 : decode mX11_plan.2.1 67 = .ok (.iconst 1, 1) := by decide +kernel
theorem dX11_plan_68 : decode mX11_plan.2.1 68 = .ok (.sipush 999, 3) := by decide +kernel
theorem dX11_plan_71 : decode mX11_plan.2.1 71 = .ok (.aload_n 0, 1) := by decide +kernel
theorem dX11_plan_72 : decode mX11_plan.2.1 72 = .ok (.getfield 45, 3) := by decide +kernel
theorem dX11_plan_75 : decode mX11_plan.2.1 75 = .ok (.getfield 283, 3) := by decide +kernel
theorem dX11_plan_78 : decode mX11_plan.2.1 78 = .ok (.invokestatic 286, 3) := by decide +kernel
theorem dX11_plan_81 : decode mX11_plan.2.1 81 = .ok (.invokestatic 291, 3) := by decide +kernel
theorem dX11_plan_84 : decode mX11_plan.2.1 84 = .ok (.invokevirtual 119, 3) := by decide +kernel
theorem dX11_plan_87 : decode mX11_plan.2.1 87 = .ok (.ireturn, 1) := by decide +kernel
theorem dX11_plan_88 : decode mX11_plan.2.1 88 = .ok (.iconst (-1), 1) := by decide +kernel
theorem dX11_plan_89 : decode mX11_plan.2.1 89 = .ok (.ireturn, 1) := by decide +kernel
theorem dX11_again_0 : decode mX11_again.2.1 0 = .ok (.aload_n 0, 1) := by decide +kernel
theorem dX11_again_1 : decode mX11_again.2.1 1 = .ok (.iload_n 1, 1) := by decide +kernel
theorem dX11_again_2 : decode mX11_again.2.1 2 = .ok (.iload_n 2, 1) := by decide +kernel
theorem dX11_again_3 : decode mX11_again.2.1 3 = .ok (.invokevirtual 294, 3) := by decide +kernel
theorem dX11_again_6 : decode mX11_again.2.1 6 = .ok (.ifCond .eq 21, 3) := by decide +kernel
theorem dX11_again_9 : decode mX11_again.2.1 9 = .ok (.iload_n 3, 1) := by decide +kernel
theorem dX11_again_10 : decode mX11_again.2.1 10 = .ok (.invokestatic 67, 3) := by decide +kernel
theorem dX11_again_13 : decode mX11_again.2.1 13 = .ok (.ifCond .eq 14, 3) := by decide +kernel
theorem dX11_again_16 : decode mX11_again.2.1 16 = .ok (.iload 4, 2) := by decide +kernel
theorem dX11_again_18 : decode mX11_again.2.1 18 = .ok (.iconst 0, 1) := by decide +kernel
theorem dX11_again_19 : decode mX11_again.2.1 19 = .ok (.bipush 10, 2) := by decide +kernel
theorem dX11_again_21 : decode mX11_again.2.1 21 = .ok (.invokestatic 71, 3) := by decide +kernel
theorem dX11_again_24 : decode mX11_again.2.1 24 = .ok (.ifCond .ne 5, 3) := by decide +kernel
theorem dX11_again_27 : decode mX11_again.2.1 27 = .ok (.iconst (-1), 1) := by decide +kernel
theorem dX11_again_28 : decode mX11_again.2.1 28 = .ok (.ireturn, 1) := by decide +kernel
theorem dX11_again_29 : decode mX11_again.2.1 29 = .ok (.aload_n 0, 1) := by decide +kernel
theorem dX11_again_30 : decode mX11_again.2.1 30 = .ok (.getfield 32, 3) := by decide +kernel
theorem dX11_again_33 : decode mX11_again.2.1 33 = .ok (.iload_n 1, 1) := by decide +kernel
theorem dX11_again_34 : decode mX11_again.2.1 34 = .ok (.iload_n 2, 1) := by decide +kernel
theorem dX11_again_35 : decode mX11_again.2.1 35 = .ok (.invokevirtual 297, 3) := by decide +kernel
theorem dX11_again_38 : decode mX11_again.2.1 38 = .ok (.ifCond .ne 12, 3) := by decide +kernel
theorem dX11_again_41 : decode mX11_again.2.1 41 = .ok (.aload_n 0, 1) := by decide +kernel
theorem dX11_again_42 : decode mX11_again.2.1 42 = .ok (.getfield 32, 3) := by decide +kernel
theorem dX11_again_45 : decode mX11_again.2.1 45 = .ok (.iload_n 1, 1) := by decide +kernel
theorem dX11_again_46 : decode mX11_again.2.1 46 = .ok (.iload_n 2, 1) := by decide +kernel
theorem dX11_again_47 : decode mX11_again.2.1 47 = .ok (.invokevirtual 300, 3) := by decide +kernel
theorem dX11_again_50 : decode mX11_again.2.1 50 = .ok (.aload_n 0, 1) := by decide +kernel
theorem dX11_again_51 : decode mX11_again.2.1 51 = .ok (.getfield 32, 3) := by decide +kernel
theorem dX11_again_54 : decode mX11_again.2.1 54 = .ok (.aload_n 0, 1) := by decide +kernel
theorem dX11_again_55 : decode mX11_again.2.1 55 = .ok (.getfield 28, 3) := by decide +kernel
theorem dX11_again_58 : decode mX11_again.2.1 58 = .ok (.getfield 83, 3) := by decide +kernel
theorem dX11_again_61 : decode mX11_again.2.1 61 = .ok (.invokevirtual 150, 3) := by decide +kernel
theorem dX11_again_64 : decode mX11_again.2.1 64 = .ok (.aload_n 0, 1) := by decide +kernel
theorem dX11_again_65 : decode mX11_again.2.1 65 = .ok (.getfield 32, 3) := by decide +kernel
theorem dX11_again_68 : decode mX11_again.2.1 68 = .ok (.iload_n 3, 1) := by decide +kernel
theorem dX11_again_69 : decode mX11_again.2.1 69 = .ok (.iload 4, 2) := by decide +kernel
theorem dX11_again_71 : decode mX11_again.2.1 71 = .ok (.invokevirtual 154, 3) := by decide +kernel
theorem dX11_again_74 : decode mX11_again.2.1 74 = .ok (.ireturn, 1) := by decide +kernel
theorem dX11_rules_0 : decode mX11_rules.2.1 0 = .ok (.iload_n 1, 1) := by decide +kernel
theorem dX11_rules_1 : decode mX11_rules.2.1 1 = .ok (.ifCond .lt 14, 3) := by decide +kernel
theorem dX11_rules_4 : decode mX11_rules.2.1 4 = .ok (.iload_n 1, 1) := by decide +kernel
theorem dX11_rules_5 : decode mX11_rules.2.1 5 = .ok (.aload_n 0, 1) := by decide +kernel
theorem dX11_rules_6 : decode mX11_rules.2.1 6 = .ok (.getfield 38, 3) := by decide +kernel
theorem dX11_rules_9 : decode mX11_rules.2.1 9 = .ok (.getfield 255, 3) := by decide +kernel
theorem dX11_rules_12 : decode mX11_rules.2.1 12 = .ok (.if_icmp .le 6, 3) := by decide +kernel
theorem dX11_rules_15 : decode mX11_rules.2.1 15 = .ok (.bipush (-2), 2) := by decide +kernel
theorem dX11_rules_17 : decode mX11_rules.2.1 17 = .ok (.ireturn, 1) := by decide +kernel
theorem dX11_rules_18 : decode mX11_rules.2.1 18 = .ok (.aload_n 0, 1) := by decide +kernel
theorem dX11_rules_19 : decode mX11_rules.2.1 19 = .ok (.getfield 60, 3) := by decide +kernel
theorem dX11_rules_22 : decode mX11_rules.2.1 22 = .ok (.bipush 8, 2) := by decide +kernel
theorem dX11_rules_24 : decode mX11_rules.2.1 24 = .ok (.if_icmp .lt 6, 3) := by decide +kernel
theorem dX11_rules_27 : decode mX11_rules.2.1 27 = .ok (.bipush (-3), 2) := by decide +kernel
theorem dX11_rules_29 : decode mX11_rules.2.1 29 = .ok (.ireturn, 1) := by decide +kernel
theorem dX11_rules_30 : decode mX11_rules.2.1 30 = .ok (.aload_n 0, 1) := by decide +kernel
theorem dX11_rules_31 : decode mX11_rules.2.1 31 = .ok (.aload_n 0, 1) := by decide +kernel
theorem dX11_rules_32 : decode mX11_rules.2.1 32 = .ok (.getfield 38, 3) := by decide +kernel
theorem dX11_rules_35 : decode mX11_rules.2.1 35 = .ok (.iload_n 1, 1) := by decide +kernel
theorem dX11_rules_36 : decode mX11_rules.2.1 36 = .ok (.invokevirtual 258, 3) := by decide +kernel
theorem dX11_rules_39 : decode mX11_rules.2.1 39 = .ok (.putfield 64, 3) := by decide +kernel
theorem dX11_rules_42 : decode mX11_rules.2.1 42 = .ok (.aload_n 0, 1) := by decide +kernel
theorem dX11_rules_43 : decode mX11_rules.2.1 43 = .ok (.getfield 64, 3) := by decide +kernel
theorem dX11_rules_46 : decode mX11_rules.2.1 46 = .ok (.iconst (-1), 1) := by decide +kernel
theorem dX11_rules_47 : decode mX11_rules.2.1 47 = .ok (.if_icmp .eq 5, 3) := by decide +kernel
theorem dX11_rules_50 : decode mX11_rules.2.1 50 = .ok (.iconst (-1), 1) := by decide +kernel
theorem dX11_rules_51 : decode mX11_rules.2.1 51 = .ok (.ireturn, 1) := by decide +kernel
theorem dX11_rules_52 : decode mX11_rules.2.1 52 = .ok (.aload_n 0, 1) := by decide +kernel
theorem dX11_rules_53 : decode mX11_rules.2.1 53 = .ok (.getfield 45, 3) := by decide +kernel
theorem dX11_rules_56 : decode mX11_rules.2.1 56 = .ok (.aload_n 0, 1) := by decide +kernel
theorem dX11_rules_57 : decode mX11_rules.2.1 57 = .ok (.getfield 38, 3) := by decide +kernel
theorem dX11_rules_60 : decode mX11_rules.2.1 60 = .ok (.getfield 261, 3) := by decide +kernel
theorem dX11_rules_63 : decode mX11_rules.2.1 63 = .ok (.aload_n 0, 1) := by decide +kernel
theorem dX11_rules_64 : decode mX11_rules.2.1 64 = .ok (.getfield 38, 3) := by decide +kernel
theorem dX11_rules_67 : decode mX11_rules.2.1 67 = .ok (.getfield 264, 3) := by decide +kernel
theorem dX11_rules_70 : decode mX11_rules.2.1 70 = .ok (.aload_n 0, 1) := by decide +kernel
theorem dX11_rules_71 : decode mX11_rules.2.1 71 = .ok (.getfield 38, 3) := by decide +kernel
theorem dX11_rules_74 : decode mX11_rules.2.1 74 = .ok (.getfield 267, 3) := by decide +kernel
theorem dX11_rules_77 : decode mX11_rules.2.1 77 = .ok (.invokevirtual 270, 3) := by decide +kernel
theorem dX11_rules_80 : decode mX11_rules.2.1 80 = .ok (.aload_n 0, 1) := by decide +kernel
theorem dX11_rules_81 : decode mX11_rules.2.1 81 = .ok (.dup, 1) := by decide +kernel
theorem dX11_rules_82 : decode mX11_rules.2.1 82 = .ok (.getfield 60, 3) := by decide +kernel
theorem dX11_rules_85 : decode mX11_rules.2.1 85 = .ok (.iconst 1, 1) := by decide +kernel
theorem dX11_rules_86 : decode mX11_rules.2.1 86 = .ok (.iadd, 1) := by decide +kernel
theorem dX11_rules_87 : decode mX11_rules.2.1 87 = .ok (.putfield 60, 3) := by decide +kernel
theorem dX11_rules_90 : decode mX11_rules.2.1 90 = .ok (.aload_n 0, 1) := by decide +kernel
theorem dX11_rules_91 : decode mX11_rules.2.1 91 = .ok (.getfield 60, 3) := by decide +kernel
theorem dX11_rules_94 : decode mX11_rules.2.1 94 = .ok (.iconst 1, 1) := by decide +kernel
theorem dX11_rules_95 : decode mX11_rules.2.1 95 = .ok (.isub, 1) := by decide +kernel
theorem dX11_rules_96 : decode mX11_rules.2.1 96 = .ok (.ireturn, 1) := by decide +kernel
def w_X11_water (a1 : Int32) (M : am_I) (N : am_N) (post : Int64 → am_I → am_N → Prop) : Prop :=
  ((a1 = 0 → w_X2_allWet 0 M N (fun zr1 zM2 zN3 => post zr1 zM2 zN3)) ∧ (a1 = 1 → post (N (1, 0, 1) 4) M N) ∧ (a1 = 2 → post (N (1, 0, 1) 5) M N) ∧ (¬ a1 = 0 → ¬ a1 = 1 → ¬ a1 = 2 → post (-1) M N))
set_option maxRecDepth 10000 in
theorem k_X11_water {d : Nat} {dm : List am_C} (h0 : am_d0 dm) (h10 : am_d1 dm 0) {a1 : Int32} {M : am_I} {N : am_N} {post : Int64 → am_I → am_N → Prop} (h : w_X11_water a1 M N post) : jg (d + 2) mX11_water dm 0 [(0, .inr (.inr (0, 0, 0))), (1, .inl a1)] [] M N (am_pl post) := by
  refine j_iload_n 1 dX11_water_0 rfl ?_
  by_cases hs0 : a1 = 0
  · replace h := h.1 hs0
    refine j_tabK (k := 0) (tgt := 28) (off := 27) dX11_water_1 hs0 (by decide) (by decide) (by decide) (by decide) ?_
    refine j_aload_n 0 dX11_water_28 rfl ?_
    refine j_getR (b := (1, 0, 0)) dX11_water_29 fsRX11_28 (h0 0 (by decide)) rfl rfl ?_
    refine j_getR (b := (1, 0, 1)) dX11_water_32 fsRX11_177 (h10 0 (by decide)) rfl rfl ?_
    refine j_invV (As := []) dX11_water_35 msRX11_200 mbX2_allWet rfl rfl (Nat.le_of_ble_eq_true rfl) (Nat.le_of_ble_eq_true rfl) (by omega) (h10 1 (by decide)) rfl rfl (k_X2_allWet (d := d + 0) h10 h) ?_
    rintro _ zM2 zN3 ⟨zr1, rfl, h⟩
    exact j_lret dX11_water_38 rfl ⟨_, rfl, h⟩
  by_cases hs1 : a1 = 1
  · replace h := h.2.1 hs1
    refine j_tabK (k := 1) (tgt := 39) (off := 38) dX11_water_1 hs1 (by decide) (by decide) (by decide) (by decide) ?_
    refine j_aload_n 0 dX11_water_39 rfl ?_
    refine j_getR (b := (1, 0, 0)) dX11_water_40 fsRX11_28 (h0 0 (by decide)) rfl rfl ?_
    refine j_getR (b := (1, 0, 1)) dX11_water_43 fsRX11_177 (h10 0 (by decide)) rfl rfl ?_
    refine j_getL dX11_water_46 fsRX11_206 (h10 1 (by decide)) rfl ?_
    exact j_lret dX11_water_49 rfl ⟨_, rfl, h⟩
  by_cases hs2 : a1 = 2
  · replace h := h.2.2.1 hs2
    refine j_tabK (k := 2) (tgt := 50) (off := 49) dX11_water_1 hs2 (by decide) (by decide) (by decide) (by decide) ?_
    refine j_aload_n 0 dX11_water_50 rfl ?_
    refine j_getR (b := (1, 0, 0)) dX11_water_51 fsRX11_28 (h0 0 (by decide)) rfl rfl ?_
    refine j_getR (b := (1, 0, 1)) dX11_water_54 fsRX11_177 (h10 0 (by decide)) rfl rfl ?_
    refine j_getL dX11_water_57 fsRX11_210 (h10 1 (by decide)) rfl ?_
    exact j_lret dX11_water_60 rfl ⟨_, rfl, h⟩
  replace h := h.2.2.2 hs0 hs1 hs2
  refine j_tableOut (tgt := 61) dX11_water_1 (am_sw0 (n := 2) (fun k hk => match k, hk with | 0, _ => hs0 | 1, _ => hs1 | 2, _ => hs2 | k + 3, hk => absurd hk (by omega))) (by decide) ?_
  refine j_ldc2 (v := (-1)) dX11_water_61 cw_977 ?_
  exact j_lret dX11_water_64 rfl ⟨_, rfl, h⟩
def w_X11_feed (a1 : Int32) (a2 : Int32) (a3 : Int32) (a4 : Int32) (a5 : Int32) (M : am_I) (N : am_N) (post : Int32 → am_I → am_N → Prop) : Prop :=
  w_X7_hasRoomForFive M N (fun zr1 zM2 zN3 => ((¬ zr1 = 0 → w_X7_append a1 zM2 zN3 (fun zM4 zN5 => w_X7_append a2 zM4 zN5 (fun zM6 zN7 => w_X7_append a3 zM6 zN7 (fun zM8 zN9 => w_X7_append a4 zM8 zN9 (fun zM10 zN11 => w_X7_append a5 zM10 zN11 (fun zM12 zN13 => post (zM12 (0, 0, 7) 4) zM12 zN13)))))) ∧ (zr1 = 0 → post (-1) zM2 zN3)))
set_option maxRecDepth 10000 in
theorem k_X11_feed {d : Nat} {dm : List am_C} (h0 : am_d0 dm) {a1 : Int32} {a2 : Int32} {a3 : Int32} {a4 : Int32} {a5 : Int32} {M : am_I} {N : am_N} {post : Int32 → am_I → am_N → Prop} (h : w_X11_feed a1 a2 a3 a4 a5 M N post) : jg (d + 2) mX11_feed dm 0 [(0, .inr (.inr (0, 0, 0))), (1, .inl a1), (2, .inl a2), (3, .inl a3), (4, .inl a4), (5, .inl a5)] [] M N (am_pi post) := by
  refine j_aload_n 0 dX11_feed_0 rfl ?_
  refine j_getR (b := (0, 0, 7)) dX11_feed_1 fsRX11_38 (h0 0 (by decide)) rfl rfl ?_
  refine j_invV (As := []) dX11_feed_4 msRX11_249 mbX7_hasRoomForFive rfl rfl (Nat.le_of_ble_eq_true rfl) (Nat.le_of_ble_eq_true rfl) (by omega) (h0 7 (by decide)) rfl rfl (k_X7_hasRoomForFive (d := d + 0) h0 h) ?_
  rintro _ zM2 zN3 ⟨zr1, rfl, h⟩
  refine j_if_ne (tgt := 12) dX11_feed_7 (by decide) (fun hc => ?_) (fun hc => ?_)
  · replace h := h.1 hc
    refine j_aload_n 0 dX11_feed_12 rfl ?_
    refine j_getR (b := (0, 0, 7)) dX11_feed_13 fsRX11_38 (h0 0 (by decide)) rfl rfl ?_
    refine j_iload_n 1 dX11_feed_16 rfl ?_
    refine j_invV (As := [.inl a1]) dX11_feed_17 msRX11_252 mbX7_append rfl rfl (Nat.le_of_ble_eq_true rfl) (Nat.le_of_ble_eq_true rfl) (by omega) (h0 7 (by decide)) rfl rfl (k_X7_append (d := d + 0) h0 h) ?_
    rintro _ zM4 zN5 ⟨rfl, h⟩
    refine j_aload_n 0 dX11_feed_20 rfl ?_
    refine j_getR (b := (0, 0, 7)) dX11_feed_21 fsRX11_38 (h0 0 (by decide)) rfl rfl ?_
    refine j_iload_n 2 dX11_feed_24 rfl ?_
    refine j_invV (As := [.inl a2]) dX11_feed_25 msRX11_252 mbX7_append rfl rfl (Nat.le_of_ble_eq_true rfl) (Nat.le_of_ble_eq_true rfl) (by omega) (h0 7 (by decide)) rfl rfl (k_X7_append (d := d + 0) h0 h) ?_
    rintro _ zM6 zN7 ⟨rfl, h⟩
    refine j_aload_n 0 dX11_feed_28 rfl ?_
    refine j_getR (b := (0, 0, 7)) dX11_feed_29 fsRX11_38 (h0 0 (by decide)) rfl rfl ?_
    refine j_iload_n 3 dX11_feed_32 rfl ?_
    refine j_invV (As := [.inl a3]) dX11_feed_33 msRX11_252 mbX7_append rfl rfl (Nat.le_of_ble_eq_true rfl) (Nat.le_of_ble_eq_true rfl) (by omega) (h0 7 (by decide)) rfl rfl (k_X7_append (d := d + 0) h0 h) ?_
    rintro _ zM8 zN9 ⟨rfl, h⟩
    refine j_aload_n 0 dX11_feed_36 rfl ?_
    refine j_getR (b := (0, 0, 7)) dX11_feed_37 fsRX11_38 (h0 0 (by decide)) rfl rfl ?_
    refine j_iload 4 dX11_feed_40 rfl ?_
    refine j_invV (As := [.inl a4]) dX11_feed_42 msRX11_252 mbX7_append rfl rfl (Nat.le_of_ble_eq_true rfl) (Nat.le_of_ble_eq_true rfl) (by omega) (h0 7 (by decide)) rfl rfl (k_X7_append (d := d + 0) h0 h) ?_
    rintro _ zM10 zN11 ⟨rfl, h⟩
    refine j_aload_n 0 dX11_feed_45 rfl ?_
    refine j_getR (b := (0, 0, 7)) dX11_feed_46 fsRX11_38 (h0 0 (by decide)) rfl rfl ?_
    refine j_iload 5 dX11_feed_49 rfl ?_
    refine j_invV (As := [.inl a5]) dX11_feed_51 msRX11_252 mbX7_append rfl rfl (Nat.le_of_ble_eq_true rfl) (Nat.le_of_ble_eq_true rfl) (by omega) (h0 7 (by decide)) rfl rfl (k_X7_append (d := d + 0) h0 h) ?_
    rintro _ zM12 zN13 ⟨rfl, h⟩
    refine j_aload_n 0 dX11_feed_54 rfl ?_
    refine j_getR (b := (0, 0, 7)) dX11_feed_55 fsRX11_38 (h0 0 (by decide)) rfl rfl ?_
    refine j_getI dX11_feed_58 fsRX11_255 (h0 7 (by decide)) rfl ?_
    exact j_iret dX11_feed_61 rfl ⟨_, rfl, h⟩
  · replace h := h.2 hc
    refine j_iconst (v := (-1)) dX11_feed_10 (by decide) ?_
    exact j_iret dX11_feed_11 rfl ⟨_, rfl, h⟩
def w_X11_fault (M : am_I) (N : am_N) (post : Int32 → am_I → am_N → Prop) : Prop :=
  post (M (0, 0, 0) 9) M N
set_option maxRecDepth 10000 in
theorem k_X11_fault {d : Nat} {dm : List am_C} (h0 : am_d0 dm) {M : am_I} {N : am_N} {post : Int32 → am_I → am_N → Prop} (h : w_X11_fault M N post) : jg (d + 1) mX11_fault dm 0 [(0, .inr (.inr (0, 0, 0)))] [] M N (am_pi post) := by
  refine j_aload_n 0 dX11_fault_0 rfl ?_
  refine j_getI dX11_fault_1 fsRX11_64 (h0 0 (by decide)) rfl ?_
  exact j_iret dX11_fault_4 rfl ⟨_, rfl, h⟩
def w_X11_canLeaveOut (a1 : Int32) (a2 : Int32) (M : am_I) (N : am_N) (post : Int32 → am_I → am_N → Prop) : Prop :=
  ((a1 = 0 → w_X9_has 1 a2 M N (fun zr1 zM2 zN3 => (zr1 = 0 ∨ zr1 = 1) ∧ post zr1 zM2 zN3)) ∧ (a1 = 1 → w_X9_has 2 a2 M N (fun zr4 zM5 zN6 => (zr4 = 0 ∨ zr4 = 1) ∧ post zr4 zM5 zN6)) ∧ (a1 = 2 → w_X9_has 3 a2 M N (fun zr7 zM8 zN9 => (zr7 = 0 ∨ zr7 = 1) ∧ post zr7 zM8 zN9)) ∧ (¬ a1 = 0 → ¬ a1 = 1 → ¬ a1 = 2 → post 0 M N))
set_option maxRecDepth 10000 in
theorem k_X11_canLeaveOut {d : Nat} {dm : List am_C} (h0 : am_d0 dm) (h2 : am_d2 dm) {a1 : Int32} {a2 : Int32} {M : am_I} {N : am_N} {post : Int32 → am_I → am_N → Prop} (h : w_X11_canLeaveOut a1 a2 M N post) : jg (d + 2) mX11_canLeaveOut dm 0 [(0, .inr (.inr (0, 0, 0))), (1, .inl a1), (2, .inl a2)] [] M N (am_pi post) := by
  refine j_iload_n 1 dX11_canLeaveOut_0 rfl ?_
  by_cases hs0 : a1 = 0
  · replace h := h.1 hs0
    refine j_tabK (k := 0) (tgt := 28) (off := 27) dX11_canLeaveOut_1 hs0 (by decide) (by decide) (by decide) (by decide) ?_
    refine j_aload_n 0 dX11_canLeaveOut_28 rfl ?_
    refine j_getR (b := (0, 0, 1)) dX11_canLeaveOut_29 fsRX11_10 (h0 0 (by decide)) rfl rfl ?_
    refine j_getR (b := (2, 1, 0)) dX11_canLeaveOut_32 fsRX11_86 (h0 1 (by decide)) rfl rfl ?_
    refine j_iload_n 2 dX11_canLeaveOut_35 rfl ?_
    refine j_invV (As := [.inl a2]) dX11_canLeaveOut_36 msRX11_107 mbX9_has rfl rfl (Nat.le_of_ble_eq_true rfl) (Nat.le_of_ble_eq_true rfl) (by omega) (h2 1 (by decide) 0 (by decide)) rfl rfl (k_X9_has (d := d + 0) h2 (by decide) h) ?_
    rintro _ zM2 zN3 ⟨zr1, rfl, h⟩
    exact j_zret dX11_canLeaveOut_39 rfl h.1 ⟨_, rfl, h.2⟩
  by_cases hs1 : a1 = 1
  · replace h := h.2.1 hs1
    refine j_tabK (k := 1) (tgt := 40) (off := 39) dX11_canLeaveOut_1 hs1 (by decide) (by decide) (by decide) (by decide) ?_
    refine j_aload_n 0 dX11_canLeaveOut_40 rfl ?_
    refine j_getR (b := (0, 0, 1)) dX11_canLeaveOut_41 fsRX11_10 (h0 0 (by decide)) rfl rfl ?_
    refine j_getR (b := (2, 2, 0)) dX11_canLeaveOut_44 fsRX11_104 (h0 1 (by decide)) rfl rfl ?_
    refine j_iload_n 2 dX11_canLeaveOut_47 rfl ?_
    refine j_invV (As := [.inl a2]) dX11_canLeaveOut_48 msRX11_107 mbX9_has rfl rfl (Nat.le_of_ble_eq_true rfl) (Nat.le_of_ble_eq_true rfl) (by omega) (h2 2 (by decide) 0 (by decide)) rfl rfl (k_X9_has (d := d + 0) h2 (by decide) h) ?_
    rintro _ zM5 zN6 ⟨zr4, rfl, h⟩
    exact j_zret dX11_canLeaveOut_51 rfl h.1 ⟨_, rfl, h.2⟩
  by_cases hs2 : a1 = 2
  · replace h := h.2.2.1 hs2
    refine j_tabK (k := 2) (tgt := 52) (off := 51) dX11_canLeaveOut_1 hs2 (by decide) (by decide) (by decide) (by decide) ?_
    refine j_aload_n 0 dX11_canLeaveOut_52 rfl ?_
    refine j_getR (b := (0, 0, 1)) dX11_canLeaveOut_53 fsRX11_10 (h0 0 (by decide)) rfl rfl ?_
    refine j_getR (b := (2, 3, 0)) dX11_canLeaveOut_56 fsRX11_164 (h0 1 (by decide)) rfl rfl ?_
    refine j_iload_n 2 dX11_canLeaveOut_59 rfl ?_
    refine j_invV (As := [.inl a2]) dX11_canLeaveOut_60 msRX11_107 mbX9_has rfl rfl (Nat.le_of_ble_eq_true rfl) (Nat.le_of_ble_eq_true rfl) (by omega) (h2 3 (by decide) 0 (by decide)) rfl rfl (k_X9_has (d := d + 0) h2 (by decide) h) ?_
    rintro _ zM8 zN9 ⟨zr7, rfl, h⟩
    exact j_zret dX11_canLeaveOut_63 rfl h.1 ⟨_, rfl, h.2⟩
  replace h := h.2.2.2 hs0 hs1 hs2
  refine j_tableOut (tgt := 64) dX11_canLeaveOut_1 (am_sw0 (n := 2) (fun k hk => match k, hk with | 0, _ => hs0 | 1, _ => hs1 | 2, _ => hs2 | k + 3, hk => absurd hk (by omega))) (by decide) ?_
  refine j_iconst (v := 0) dX11_canLeaveOut_64 (by decide) ?_
  exact j_zret dX11_canLeaveOut_65 rfl (Or.inl rfl) ⟨_, rfl, h⟩
def w_X11_cell (a1 : Int32) (a2 : Int32) (M : am_I) (N : am_N) (post : Int32 → am_I → am_N → Prop) : Prop :=
  w_X11_isCell a1 M N (fun zr1 zM2 zN3 => ((zr1 = 0 → post (-1) zM2 zN3) ∧ (¬ zr1 = 0 → w_X11_within a2 0 10 zM2 zN3 (fun zr4 zM5 zN6 => ((¬ zr4 = 0 → w_X10_factOfCell 0 a1 a2 zM5 zN6 (fun zr7 zM8 zN9 => post zr7 zM8 zN9)) ∧ (zr4 = 0 → post (-1) zM5 zN6))))))
set_option maxRecDepth 10000 in
theorem k_X11_cell {d : Nat} {dm : List am_C} (h0 : am_d0 dm) (h10 : am_d1 dm 0) (h2 : am_d2 dm) {a1 : Int32} {a2 : Int32} {M : am_I} {N : am_N} {post : Int32 → am_I → am_N → Prop} (h : w_X11_cell a1 a2 M N post) : jg (d + 5) mX11_cell dm 0 [(0, .inr (.inr (0, 0, 0))), (1, .inl a1), (2, .inl a2)] [] M N (am_pi post) := by
  refine j_iload_n 1 dX11_cell_0 rfl ?_
  refine j_invS (As := [.inl a1]) dX11_cell_1 msRX11_67 mbX11_isCell rfl rfl (Nat.le_of_ble_eq_true rfl) (Nat.le_of_ble_eq_true rfl) (by omega) (k_X11_isCell (d := d + 3)  h) ?_
  rintro _ zM2 zN3 ⟨zr1, rfl, h⟩
  refine j_if_eq (tgt := 17) dX11_cell_4 (by decide) (fun hc => ?_) (fun hc => ?_)
  · replace h := h.1 hc
    refine j_iconst (v := (-1)) dX11_cell_17 (by decide) ?_
    exact j_iret dX11_cell_18 rfl ⟨_, rfl, h⟩
  · replace h := h.2 hc
    refine j_iload_n 2 dX11_cell_7 rfl ?_
    refine j_iconst (v := 0) dX11_cell_8 (by decide) ?_
    refine j_bipush (v := 10) dX11_cell_9 (by decide) ?_
    refine j_invS (As := [.inl a2, .inl 0, .inl 10]) dX11_cell_11 msRX11_71 mbX11_within rfl rfl (Nat.le_of_ble_eq_true rfl) (Nat.le_of_ble_eq_true rfl) (by omega) (k_X11_within (d := d + 3)  h) ?_
    rintro _ zM5 zN6 ⟨zr4, rfl, h⟩
    refine j_if_ne (tgt := 19) dX11_cell_14 (by decide) (fun hc => ?_) (fun hc => ?_)
    · replace h := h.1 hc
      refine j_aload_n 0 dX11_cell_19 rfl ?_
      refine j_getR (b := (1, 0, 0)) dX11_cell_20 fsRX11_28 (h0 0 (by decide)) rfl rfl ?_
      refine j_iload_n 1 dX11_cell_23 rfl ?_
      refine j_iload_n 2 dX11_cell_24 rfl ?_
      refine j_invV (As := [.inl a1, .inl a2]) dX11_cell_25 msRX11_154 mbX10_factOfCell rfl rfl (Nat.le_of_ble_eq_true rfl) (Nat.le_of_ble_eq_true rfl) (by omega) (h10 0 (by decide)) rfl rfl (k_X10_factOfCell (d := d + 0) h0 h10 h2 h) ?_
      rintro _ zM8 zN9 ⟨zr7, rfl, h⟩
      exact j_iret dX11_cell_28 rfl ⟨_, rfl, h⟩
    · replace h := h.2 hc
      refine j_iconst (v := (-1)) dX11_cell_17 (by decide) ?_
      exact j_iret dX11_cell_18 rfl ⟨_, rfl, h⟩
def w_X11_share (a1 : Int32) (a2 : Int32) (M : am_I) (N : am_N) (post : Int32 → am_I → am_N → Prop) : Prop :=
  w_X6_standsOn 0 a1 M N (fun zr1 zM2 zN3 => ((zr1 = 0 → post (-1) zM2 zN3) ∧ (¬ zr1 = 0 → w_X9_has 4 a2 zM2 zN3 (fun zr4 zM5 zN6 => ((¬ zr4 = 0 → w_X6_shareOf 0 a1 a2 zM5 zN6 (fun zr7 zM8 zN9 => post zr7 zM8 zN9)) ∧ (zr4 = 0 → post (-1) zM5 zN6))))))
set_option maxRecDepth 10000 in
theorem k_X11_share {d : Nat} {dm : List am_C} (h0 : am_d0 dm) (h10 : am_d1 dm 0) (h2 : am_d2 dm) {a1 : Int32} {a2 : Int32} {M : am_I} {N : am_N} {post : Int32 → am_I → am_N → Prop} (h : w_X11_share a1 a2 M N post) : jg (d + 3) mX11_share dm 0 [(0, .inr (.inr (0, 0, 0))), (1, .inl a1), (2, .inl a2)] [] M N (am_pi post) := by
  refine j_aload_n 0 dX11_share_0 rfl ?_
  refine j_getR (b := (1, 0, 0)) dX11_share_1 fsRX11_28 (h0 0 (by decide)) rfl rfl ?_
  refine j_getR (b := (1, 0, 6)) dX11_share_4 fsRX11_132 (h10 0 (by decide)) rfl rfl ?_
  refine j_iload_n 1 dX11_share_7 rfl ?_
  refine j_invV (As := [.inl a1]) dX11_share_8 msRX11_136 mbX6_standsOn rfl rfl (Nat.le_of_ble_eq_true rfl) (Nat.le_of_ble_eq_true rfl) (by omega) (h10 6 (by decide)) rfl rfl (k_X6_standsOn (d := d + 0) h10 h) ?_
  rintro _ zM2 zN3 ⟨zr1, rfl, h⟩
  refine j_if_eq (tgt := 28) dX11_share_11 (by decide) (fun hc => ?_) (fun hc => ?_)
  · replace h := h.1 hc
    refine j_iconst (v := (-1)) dX11_share_28 (by decide) ?_
    exact j_iret dX11_share_29 rfl ⟨_, rfl, h⟩
  · replace h := h.2 hc
    refine j_aload_n 0 dX11_share_14 rfl ?_
    refine j_getR (b := (0, 0, 1)) dX11_share_15 fsRX11_10 (h0 0 (by decide)) rfl rfl ?_
    refine j_getR (b := (2, 4, 0)) dX11_share_18 fsRX11_129 (h0 1 (by decide)) rfl rfl ?_
    refine j_iload_n 2 dX11_share_21 rfl ?_
    refine j_invV (As := [.inl a2]) dX11_share_22 msRX11_107 mbX9_has rfl rfl (Nat.le_of_ble_eq_true rfl) (Nat.le_of_ble_eq_true rfl) (by omega) (h2 4 (by decide) 0 (by decide)) rfl rfl (k_X9_has (d := d + 1) h2 (by decide) h) ?_
    rintro _ zM5 zN6 ⟨zr4, rfl, h⟩
    refine j_if_ne (tgt := 30) dX11_share_25 (by decide) (fun hc => ?_) (fun hc => ?_)
    · replace h := h.1 hc
      refine j_aload_n 0 dX11_share_30 rfl ?_
      refine j_getR (b := (1, 0, 0)) dX11_share_31 fsRX11_28 (h0 0 (by decide)) rfl rfl ?_
      refine j_getR (b := (1, 0, 6)) dX11_share_34 fsRX11_132 (h10 0 (by decide)) rfl rfl ?_
      refine j_iload_n 1 dX11_share_37 rfl ?_
      refine j_iload_n 2 dX11_share_38 rfl ?_
      refine j_invV (As := [.inl a1, .inl a2]) dX11_share_39 msRX11_158 mbX6_shareOf rfl rfl (Nat.le_of_ble_eq_true rfl) (Nat.le_of_ble_eq_true rfl) (by omega) (h10 6 (by decide)) rfl rfl (k_X6_shareOf (d := d + 0) h10 h) ?_
      rintro _ zM8 zN9 ⟨zr7, rfl, h⟩
      exact j_iret dX11_share_42 rfl ⟨_, rfl, h⟩
    · replace h := h.2 hc
      refine j_iconst (v := (-1)) dX11_share_28 (by decide) ?_
      exact j_iret dX11_share_29 rfl ⟨_, rfl, h⟩
def w_X11_told (a1 : Int32) (a2 : Int32) (M : am_I) (N : am_N) (post : Int32 → am_I → am_N → Prop) : Prop :=
  w_X9_has 2 a1 M N (fun zr1 zM2 zN3 => ((¬ zr1 = 0 → w_X1_factOfCart 0 a1 a2 zM2 zN3 (fun zr4 zM5 zN6 => post zr4 zM5 zN6)) ∧ (zr1 = 0 → post (-2) zM2 zN3)))
set_option maxRecDepth 10000 in
theorem k_X11_told {d : Nat} {dm : List am_C} (h0 : am_d0 dm) (h10 : am_d1 dm 0) (h2 : am_d2 dm) {a1 : Int32} {a2 : Int32} {M : am_I} {N : am_N} {post : Int32 → am_I → am_N → Prop} (h : w_X11_told a1 a2 M N post) : jg (d + 3) mX11_told dm 0 [(0, .inr (.inr (0, 0, 0))), (1, .inl a1), (2, .inl a2)] [] M N (am_pi post) := by
  refine j_aload_n 0 dX11_told_0 rfl ?_
  refine j_getR (b := (0, 0, 1)) dX11_told_1 fsRX11_10 (h0 0 (by decide)) rfl rfl ?_
  refine j_getR (b := (2, 2, 0)) dX11_told_4 fsRX11_104 (h0 1 (by decide)) rfl rfl ?_
  refine j_iload_n 1 dX11_told_7 rfl ?_
  refine j_invV (As := [.inl a1]) dX11_told_8 msRX11_107 mbX9_has rfl rfl (Nat.le_of_ble_eq_true rfl) (Nat.le_of_ble_eq_true rfl) (by omega) (h2 2 (by decide) 0 (by decide)) rfl rfl (k_X9_has (d := d + 1) h2 (by decide) h) ?_
  rintro _ zM2 zN3 ⟨zr1, rfl, h⟩
  refine j_if_ne (tgt := 17) dX11_told_11 (by decide) (fun hc => ?_) (fun hc => ?_)
  · replace h := h.1 hc
    refine j_aload_n 0 dX11_told_17 rfl ?_
    refine j_getR (b := (1, 0, 0)) dX11_told_18 fsRX11_28 (h0 0 (by decide)) rfl rfl ?_
    refine j_getR (b := (1, 0, 14)) dX11_told_21 fsRX11_110 (h10 0 (by decide)) rfl rfl ?_
    refine j_iload_n 1 dX11_told_24 rfl ?_
    refine j_iload_n 2 dX11_told_25 rfl ?_
    refine j_invV (As := [.inl a1, .inl a2]) dX11_told_26 msRX11_161 mbX1_factOfCart rfl rfl (Nat.le_of_ble_eq_true rfl) (Nat.le_of_ble_eq_true rfl) (by omega) (h10 14 (by decide)) rfl rfl (k_X1_factOfCart (d := d + 0) h0 h10 h2 h) ?_
    rintro _ zM5 zN6 ⟨zr4, rfl, h⟩
    exact j_iret dX11_told_29 rfl ⟨_, rfl, h⟩
  · replace h := h.2 hc
    refine j_bipush (v := (-2)) dX11_told_14 (by decide) ?_
    exact j_iret dX11_told_16 rfl ⟨_, rfl, h⟩
def w_X11_job (a1 : Int32) (a2 : Int32) (M : am_I) (N : am_N) (post : Int32 → am_I → am_N → Prop) : Prop :=
  w_X9_has 3 a1 M N (fun zr1 zM2 zN3 => ((¬ zr1 = 0 → ((a2 = 0 → w_X9_at 3 a1 0 zM2 zN3 (fun zr4 zM5 zN6 => post zr4 zM5 zN6)) ∧ (a2 = 1 → w_X9_at 3 a1 1 zM2 zN3 (fun zr7 zM8 zN9 => post zr7 zM8 zN9)) ∧ (a2 = 2 → w_X9_at 3 a1 2 zM2 zN3 (fun zr10 zM11 zN12 => post zr10 zM11 zN12)) ∧ (a2 = 3 → w_X10_stateOfWork 0 a1 zM2 zN3 (fun zr13 zM14 zN15 => post zr13 zM14 zN15)) ∧ (a2 = 4 → w_X10_doerOfWork 0 a1 zM2 zN3 (fun zr16 zM17 zN18 => post zr16 zM17 zN18)) ∧ (¬ a2 = 0 → ¬ a2 = 1 → ¬ a2 = 2 → ¬ a2 = 3 → ¬ a2 = 4 → post (-2) zM2 zN3))) ∧ (zr1 = 0 → post (-2) zM2 zN3)))
set_option maxRecDepth 10000 in
theorem k_X11_job {d : Nat} {dm : List am_C} (h0 : am_d0 dm) (h10 : am_d1 dm 0) (h2 : am_d2 dm) {a1 : Int32} {a2 : Int32} {M : am_I} {N : am_N} {post : Int32 → am_I → am_N → Prop} (h : w_X11_job a1 a2 M N post) : jg (d + 3) mX11_job dm 0 [(0, .inr (.inr (0, 0, 0))), (1, .inl a1), (2, .inl a2)] [] M N (am_pi post) := by
  refine j_aload_n 0 dX11_job_0 rfl ?_
  refine j_getR (b := (0, 0, 1)) dX11_job_1 fsRX11_10 (h0 0 (by decide)) rfl rfl ?_
  refine j_getR (b := (2, 3, 0)) dX11_job_4 fsRX11_164 (h0 1 (by decide)) rfl rfl ?_
  refine j_iload_n 1 dX11_job_7 rfl ?_
  refine j_invV (As := [.inl a1]) dX11_job_8 msRX11_107 mbX9_has rfl rfl (Nat.le_of_ble_eq_true rfl) (Nat.le_of_ble_eq_true rfl) (by omega) (h2 3 (by decide) 0 (by decide)) rfl rfl (k_X9_has (d := d + 1) h2 (by decide) h) ?_
  rintro _ zM2 zN3 ⟨zr1, rfl, h⟩
  refine j_if_ne (tgt := 17) dX11_job_11 (by decide) (fun hc => ?_) (fun hc => ?_)
  · replace h := h.1 hc
    refine j_iload_n 2 dX11_job_17 rfl ?_
    by_cases hs0 : a2 = 0
    · replace h := h.1 hs0
      refine j_tabK (k := 0) (tgt := 52) (off := 34) dX11_job_18 hs0 (by decide) (by decide) (by decide) (by decide) ?_
      refine j_aload_n 0 dX11_job_52 rfl ?_
      refine j_getR (b := (0, 0, 1)) dX11_job_53 fsRX11_10 (h0 0 (by decide)) rfl rfl ?_
      refine j_getR (b := (2, 3, 0)) dX11_job_56 fsRX11_164 (h0 1 (by decide)) rfl rfl ?_
      refine j_iload_n 1 dX11_job_59 rfl ?_
      refine j_iconst (v := 0) dX11_job_60 (by decide) ?_
      refine j_invV (As := [.inl a1, .inl 0]) dX11_job_61 msRX11_167 mbX9_at rfl rfl (Nat.le_of_ble_eq_true rfl) (Nat.le_of_ble_eq_true rfl) (by omega) (h2 3 (by decide) 0 (by decide)) rfl rfl (k_X9_at (d := d + 1) h2 (by decide) h) ?_
      rintro _ zM5 zN6 ⟨zr4, rfl, h⟩
      exact j_iret dX11_job_64 rfl ⟨_, rfl, h⟩
    by_cases hs1 : a2 = 1
    · replace h := h.2.1 hs1
      refine j_tabK (k := 1) (tgt := 65) (off := 47) dX11_job_18 hs1 (by decide) (by decide) (by decide) (by decide) ?_
      refine j_aload_n 0 dX11_job_65 rfl ?_
      refine j_getR (b := (0, 0, 1)) dX11_job_66 fsRX11_10 (h0 0 (by decide)) rfl rfl ?_
      refine j_getR (b := (2, 3, 0)) dX11_job_69 fsRX11_164 (h0 1 (by decide)) rfl rfl ?_
      refine j_iload_n 1 dX11_job_72 rfl ?_
      refine j_iconst (v := 1) dX11_job_73 (by decide) ?_
      refine j_invV (As := [.inl a1, .inl 1]) dX11_job_74 msRX11_167 mbX9_at rfl rfl (Nat.le_of_ble_eq_true rfl) (Nat.le_of_ble_eq_true rfl) (by omega) (h2 3 (by decide) 0 (by decide)) rfl rfl (k_X9_at (d := d + 1) h2 (by decide) h) ?_
      rintro _ zM8 zN9 ⟨zr7, rfl, h⟩
      exact j_iret dX11_job_77 rfl ⟨_, rfl, h⟩
    by_cases hs2 : a2 = 2
    · replace h := h.2.2.1 hs2
      refine j_tabK (k := 2) (tgt := 78) (off := 60) dX11_job_18 hs2 (by decide) (by decide) (by decide) (by decide) ?_
      refine j_aload_n 0 dX11_job_78 rfl ?_
      refine j_getR (b := (0, 0, 1)) dX11_job_79 fsRX11_10 (h0 0 (by decide)) rfl rfl ?_
      refine j_getR (b := (2, 3, 0)) dX11_job_82 fsRX11_164 (h0 1 (by decide)) rfl rfl ?_
      refine j_iload_n 1 dX11_job_85 rfl ?_
      refine j_iconst (v := 2) dX11_job_86 (by decide) ?_
      refine j_invV (As := [.inl a1, .inl 2]) dX11_job_87 msRX11_167 mbX9_at rfl rfl (Nat.le_of_ble_eq_true rfl) (Nat.le_of_ble_eq_true rfl) (by omega) (h2 3 (by decide) 0 (by decide)) rfl rfl (k_X9_at (d := d + 1) h2 (by decide) h) ?_
      rintro _ zM11 zN12 ⟨zr10, rfl, h⟩
      exact j_iret dX11_job_90 rfl ⟨_, rfl, h⟩
    by_cases hs3 : a2 = 3
    · replace h := h.2.2.2.1 hs3
      refine j_tabK (k := 3) (tgt := 91) (off := 73) dX11_job_18 hs3 (by decide) (by decide) (by decide) (by decide) ?_
      refine j_aload_n 0 dX11_job_91 rfl ?_
      refine j_getR (b := (1, 0, 0)) dX11_job_92 fsRX11_28 (h0 0 (by decide)) rfl rfl ?_
      refine j_iload_n 1 dX11_job_95 rfl ?_
      refine j_invV (As := [.inl a1]) dX11_job_96 msRX11_170 mbX10_stateOfWork rfl rfl (Nat.le_of_ble_eq_true rfl) (Nat.le_of_ble_eq_true rfl) (by omega) (h10 0 (by decide)) rfl rfl (k_X10_stateOfWork (d := d + 0) h10 h) ?_
      rintro _ zM14 zN15 ⟨zr13, rfl, h⟩
      exact j_iret dX11_job_99 rfl ⟨_, rfl, h⟩
    by_cases hs4 : a2 = 4
    · replace h := h.2.2.2.2.1 hs4
      refine j_tabK (k := 4) (tgt := 100) (off := 82) dX11_job_18 hs4 (by decide) (by decide) (by decide) (by decide) ?_
      refine j_aload_n 0 dX11_job_100 rfl ?_
      refine j_getR (b := (1, 0, 0)) dX11_job_101 fsRX11_28 (h0 0 (by decide)) rfl rfl ?_
      refine j_iload_n 1 dX11_job_104 rfl ?_
      refine j_invV (As := [.inl a1]) dX11_job_105 msRX11_174 mbX10_doerOfWork rfl rfl (Nat.le_of_ble_eq_true rfl) (Nat.le_of_ble_eq_true rfl) (by omega) (h10 0 (by decide)) rfl rfl (k_X10_doerOfWork (d := d + 0) h10 h) ?_
      rintro _ zM17 zN18 ⟨zr16, rfl, h⟩
      exact j_iret dX11_job_108 rfl ⟨_, rfl, h⟩
    replace h := h.2.2.2.2.2 hs0 hs1 hs2 hs3 hs4
    refine j_tableOut (tgt := 109) dX11_job_18 (am_sw0 (n := 4) (fun k hk => match k, hk with | 0, _ => hs0 | 1, _ => hs1 | 2, _ => hs2 | 3, _ => hs3 | 4, _ => hs4 | k + 5, hk => absurd hk (by omega))) (by decide) ?_
    refine j_bipush (v := (-2)) dX11_job_109 (by decide) ?_
    exact j_iret dX11_job_111 rfl ⟨_, rfl, h⟩
  · replace h := h.2 hc
    refine j_bipush (v := (-2)) dX11_job_14 (by decide) ?_
    exact j_iret dX11_job_16 rfl ⟨_, rfl, h⟩
def w_X11_strip (a1 : Int32) (a2 : Int32) (M : am_I) (N : am_N) (post : Int32 → am_I → am_N → Prop) : Prop :=
  w_X11_within a1 0 1 M N (fun zr1 zM2 zN3 => ((zr1 = 0 → post (-1) zM2 zN3) ∧ (¬ zr1 = 0 → w_X11_within a2 0 9999 zM2 zN3 (fun zr4 zM5 zN6 => ((zr4 = 0 → post (-1) zM5 zN6) ∧ (¬ zr4 = 0 → w_X9_isFull 6 zM5 zN6 (fun zr7 zM8 zN9 => ((zr7 = 0 → w_X9_add 6 a1 a2 0 0 0 0 zM8 zN9 (fun zM10 zN11 => post ((zM10 (2, 6, 0) 3) - 1) zM10 zN11)) ∧ (¬ zr7 = 0 → post (-1) zM8 zN9)))))))))
set_option maxRecDepth 10000 in
theorem k_X11_strip {d : Nat} {dm : List am_C} (h0 : am_d0 dm) (h2 : am_d2 dm) {a1 : Int32} {a2 : Int32} {M : am_I} {N : am_N} {post : Int32 → am_I → am_N → Prop} (h : w_X11_strip a1 a2 M N post) : jg (d + 3) mX11_strip dm 0 [(0, .inr (.inr (0, 0, 0))), (1, .inl a1), (2, .inl a2)] [] M N (am_pi post) := by
  refine j_iload_n 1 dX11_strip_0 rfl ?_
  refine j_iconst (v := 0) dX11_strip_1 (by decide) ?_
  refine j_iconst (v := 1) dX11_strip_2 (by decide) ?_
  refine j_invS (As := [.inl a1, .inl 0, .inl 1]) dX11_strip_3 msRX11_71 mbX11_within rfl rfl (Nat.le_of_ble_eq_true rfl) (Nat.le_of_ble_eq_true rfl) (by omega) (k_X11_within (d := d + 1)  h) ?_
  rintro _ zM2 zN3 ⟨zr1, rfl, h⟩
  refine j_if_eq (tgt := 33) dX11_strip_6 (by decide) (fun hc => ?_) (fun hc => ?_)
  · replace h := h.1 hc
    refine j_iconst (v := (-1)) dX11_strip_33 (by decide) ?_
    exact j_iret dX11_strip_34 rfl ⟨_, rfl, h⟩
  · replace h := h.2 hc
    refine j_iload_n 2 dX11_strip_9 rfl ?_
    refine j_iconst (v := 0) dX11_strip_10 (by decide) ?_
    refine j_sipush (v := 9999) dX11_strip_11 (by decide) ?_
    refine j_invS (As := [.inl a2, .inl 0, .inl 9999]) dX11_strip_14 msRX11_71 mbX11_within rfl rfl (Nat.le_of_ble_eq_true rfl) (Nat.le_of_ble_eq_true rfl) (by omega) (k_X11_within (d := d + 1)  h) ?_
    rintro _ zM5 zN6 ⟨zr4, rfl, h⟩
    refine j_if_eq (tgt := 33) dX11_strip_17 (by decide) (fun hc => ?_) (fun hc => ?_)
    · replace h := h.1 hc
      refine j_iconst (v := (-1)) dX11_strip_33 (by decide) ?_
      exact j_iret dX11_strip_34 rfl ⟨_, rfl, h⟩
    · replace h := h.2 hc
      refine j_aload_n 0 dX11_strip_20 rfl ?_
      refine j_getR (b := (0, 0, 15)) dX11_strip_21 fsRX11_52 (h0 0 (by decide)) rfl rfl ?_
      refine j_getR (b := (2, 6, 0)) dX11_strip_24 fsRX11_231 (h0 15 (by decide)) rfl rfl ?_
      refine j_invV (As := []) dX11_strip_27 msRX11_234 mbX9_isFull rfl rfl (Nat.le_of_ble_eq_true rfl) (Nat.le_of_ble_eq_true rfl) (by omega) (h2 6 (by decide) 0 (by decide)) rfl rfl (k_X9_isFull (d := d + 1) h2 (by decide) h) ?_
      rintro _ zM8 zN9 ⟨zr7, rfl, h⟩
      refine j_if_eq (tgt := 35) dX11_strip_30 (by decide) (fun hc => ?_) (fun hc => ?_)
      · replace h := h.1 hc
        refine j_aload_n 0 dX11_strip_35 rfl ?_
        refine j_getR (b := (0, 0, 15)) dX11_strip_36 fsRX11_52 (h0 0 (by decide)) rfl rfl ?_
        refine j_getR (b := (2, 6, 0)) dX11_strip_39 fsRX11_231 (h0 15 (by decide)) rfl rfl ?_
        refine j_iload_n 1 dX11_strip_42 rfl ?_
        refine j_iload_n 2 dX11_strip_43 rfl ?_
        refine j_iconst (v := 0) dX11_strip_44 (by decide) ?_
        refine j_iconst (v := 0) dX11_strip_45 (by decide) ?_
        refine j_iconst (v := 0) dX11_strip_46 (by decide) ?_
        refine j_iconst (v := 0) dX11_strip_47 (by decide) ?_
        refine j_invV (As := [.inl a1, .inl a2, .inl 0, .inl 0, .inl 0, .inl 0]) dX11_strip_48 msRX11_94 mbX9_add rfl rfl (Nat.le_of_ble_eq_true rfl) (Nat.le_of_ble_eq_true rfl) (by omega) (h2 6 (by decide) 0 (by decide)) rfl rfl (k_X9_add (d := d + 0) h2 (by decide) h) ?_
        rintro _ zM10 zN11 ⟨rfl, h⟩
        refine j_aload_n 0 dX11_strip_51 rfl ?_
        refine j_getR (b := (0, 0, 15)) dX11_strip_52 fsRX11_52 (h0 0 (by decide)) rfl rfl ?_
        refine j_getR (b := (2, 6, 0)) dX11_strip_55 fsRX11_231 (h0 15 (by decide)) rfl rfl ?_
        refine j_getI dX11_strip_58 fsRX11_141 (h2 6 (by decide) 0 (by decide)) rfl ?_
        refine j_iconst (v := 1) dX11_strip_61 (by decide) ?_
        refine j_isub dX11_strip_62 ?_
        exact j_iret dX11_strip_63 rfl ⟨_, rfl, h⟩
      · replace h := h.2 hc
        refine j_iconst (v := (-1)) dX11_strip_33 (by decide) ?_
        exact j_iret dX11_strip_34 rfl ⟨_, rfl, h⟩
def w_X11_count (a1 : Int32) (M : am_I) (N : am_N) (post : Int32 → am_I → am_N → Prop) : Prop :=
  ((a1 = 0 → post (M (1, 0, 0) 8) M N) ∧ (a1 = 1 → post (M (2, 0, 0) 3) M N) ∧ (a1 = 2 → post (M (2, 1, 0) 3) M N) ∧ (a1 = 3 → post (M (2, 2, 0) 3) M N) ∧ (a1 = 4 → post (M (2, 3, 0) 3) M N) ∧ (a1 = 5 → w_X10_worksThatAre 0 0 M N (fun zr1 zM2 zN3 => post zr1 zM2 zN3)) ∧ (a1 = 6 → w_X10_worksThatAre 0 2 M N (fun zr4 zM5 zN6 => post zr4 zM5 zN6)) ∧ (a1 = 7 → post (M (2, 5, 0) 3) M N) ∧ (a1 = 8 → post (M (2, 4, 0) 3) M N) ∧ (a1 = 9 → w_J13_bitCount_95d88 (N (1, 0, 6) 8) M N (fun zr7 zM8 zN9 => post zr7 zM8 zN9)) ∧ (a1 = 10 → w_J13_bitCount_95d88 (N (1, 0, 6) 9) M N (fun zr10 zM11 zN12 => post zr10 zM11 zN12)) ∧ (a1 = 11 → post (M (2, 6, 0) 3) M N) ∧ (a1 = 12 → post (M (0, 0, 0) 8) M N) ∧ (a1 = 13 → post (M (0, 0, 12) 3) M N) ∧ (a1 = 14 → post (M (0, 0, 7) 4) M N) ∧ (a1 = 15 → w_X1_cartsStuck 0 M N (fun zr13 zM14 zN15 => post zr13 zM14 zN15)) ∧ (a1 = 16 → w_X6_allGot 0 M N (fun zr16 zM17 zN18 => post zr16 zM17 zN18)) ∧ (¬ a1 = 0 → ¬ a1 = 1 → ¬ a1 = 2 → ¬ a1 = 3 → ¬ a1 = 4 → ¬ a1 = 5 → ¬ a1 = 6 → ¬ a1 = 7 → ¬ a1 = 8 → ¬ a1 = 9 → ¬ a1 = 10 → ¬ a1 = 11 → ¬ a1 = 12 → ¬ a1 = 13 → ¬ a1 = 14 → ¬ a1 = 15 → ¬ a1 = 16 → post (-1) M N))
set_option maxRecDepth 10000 in
theorem k_X11_count {d : Nat} {dm : List am_C} (h0 : am_d0 dm) (h10 : am_d1 dm 0) (h2 : am_d2 dm) {a1 : Int32} {M : am_I} {N : am_N} {post : Int32 → am_I → am_N → Prop} (h : w_X11_count a1 M N post) : jg (d + 4) mX11_count dm 0 [(0, .inr (.inr (0, 0, 0))), (1, .inl a1)] [] M N (am_pi post) := by
  refine j_iload_n 1 dX11_count_0 rfl ?_
  by_cases hs0 : a1 = 0
  · replace h := h.1 hs0
    refine j_tabK (k := 0) (tgt := 84) (off := 83) dX11_count_1 hs0 (by decide) (by decide) (by decide) (by decide) ?_
    refine j_aload_n 0 dX11_count_84 rfl ?_
    refine j_getR (b := (1, 0, 0)) dX11_count_85 fsRX11_28 (h0 0 (by decide)) rfl rfl ?_
    refine j_getI dX11_count_88 fsRX11_83 (h10 0 (by decide)) rfl ?_
    exact j_iret dX11_count_91 rfl ⟨_, rfl, h⟩
  by_cases hs1 : a1 = 1
  · replace h := h.2.1 hs1
    refine j_tabK (k := 1) (tgt := 92) (off := 91) dX11_count_1 hs1 (by decide) (by decide) (by decide) (by decide) ?_
    refine j_aload_n 0 dX11_count_92 rfl ?_
    refine j_getR (b := (0, 0, 1)) dX11_count_93 fsRX11_10 (h0 0 (by decide)) rfl rfl ?_
    refine j_getR (b := (2, 0, 0)) dX11_count_96 fsRX11_304 (h0 1 (by decide)) rfl rfl ?_
    refine j_getI dX11_count_99 fsRX11_141 (h2 0 (by decide) 0 (by decide)) rfl ?_
    exact j_iret dX11_count_102 rfl ⟨_, rfl, h⟩
  by_cases hs2 : a1 = 2
  · replace h := h.2.2.1 hs2
    refine j_tabK (k := 2) (tgt := 103) (off := 102) dX11_count_1 hs2 (by decide) (by decide) (by decide) (by decide) ?_
    refine j_aload_n 0 dX11_count_103 rfl ?_
    refine j_getR (b := (0, 0, 1)) dX11_count_104 fsRX11_10 (h0 0 (by decide)) rfl rfl ?_
    refine j_getR (b := (2, 1, 0)) dX11_count_107 fsRX11_86 (h0 1 (by decide)) rfl rfl ?_
    refine j_getI dX11_count_110 fsRX11_141 (h2 1 (by decide) 0 (by decide)) rfl ?_
    exact j_iret dX11_count_113 rfl ⟨_, rfl, h⟩
  by_cases hs3 : a1 = 3
  · replace h := h.2.2.2.1 hs3
    refine j_tabK (k := 3) (tgt := 114) (off := 113) dX11_count_1 hs3 (by decide) (by decide) (by decide) (by decide) ?_
    refine j_aload_n 0 dX11_count_114 rfl ?_
    refine j_getR (b := (0, 0, 1)) dX11_count_115 fsRX11_10 (h0 0 (by decide)) rfl rfl ?_
    refine j_getR (b := (2, 2, 0)) dX11_count_118 fsRX11_104 (h0 1 (by decide)) rfl rfl ?_
    refine j_getI dX11_count_121 fsRX11_141 (h2 2 (by decide) 0 (by decide)) rfl ?_
    exact j_iret dX11_count_124 rfl ⟨_, rfl, h⟩
  by_cases hs4 : a1 = 4
  · replace h := h.2.2.2.2.1 hs4
    refine j_tabK (k := 4) (tgt := 125) (off := 124) dX11_count_1 hs4 (by decide) (by decide) (by decide) (by decide) ?_
    refine j_aload_n 0 dX11_count_125 rfl ?_
    refine j_getR (b := (0, 0, 1)) dX11_count_126 fsRX11_10 (h0 0 (by decide)) rfl rfl ?_
    refine j_getR (b := (2, 3, 0)) dX11_count_129 fsRX11_164 (h0 1 (by decide)) rfl rfl ?_
    refine j_getI dX11_count_132 fsRX11_141 (h2 3 (by decide) 0 (by decide)) rfl ?_
    exact j_iret dX11_count_135 rfl ⟨_, rfl, h⟩
  by_cases hs5 : a1 = 5
  · replace h := h.2.2.2.2.2.1 hs5
    refine j_tabK (k := 5) (tgt := 136) (off := 135) dX11_count_1 hs5 (by decide) (by decide) (by decide) (by decide) ?_
    refine j_aload_n 0 dX11_count_136 rfl ?_
    refine j_getR (b := (1, 0, 0)) dX11_count_137 fsRX11_28 (h0 0 (by decide)) rfl rfl ?_
    refine j_iconst (v := 0) dX11_count_140 (by decide) ?_
    refine j_invV (As := [.inl 0]) dX11_count_141 msRX11_307 mbX10_worksThatAre rfl rfl (Nat.le_of_ble_eq_true rfl) (Nat.le_of_ble_eq_true rfl) (by omega) (h10 0 (by decide)) rfl rfl (k_X10_worksThatAre (d := d + 2) h10 h) ?_
    rintro _ zM2 zN3 ⟨zr1, rfl, h⟩
    exact j_iret dX11_count_144 rfl ⟨_, rfl, h⟩
  by_cases hs6 : a1 = 6
  · replace h := h.2.2.2.2.2.2.1 hs6
    refine j_tabK (k := 6) (tgt := 145) (off := 144) dX11_count_1 hs6 (by decide) (by decide) (by decide) (by decide) ?_
    refine j_aload_n 0 dX11_count_145 rfl ?_
    refine j_getR (b := (1, 0, 0)) dX11_count_146 fsRX11_28 (h0 0 (by decide)) rfl rfl ?_
    refine j_iconst (v := 2) dX11_count_149 (by decide) ?_
    refine j_invV (As := [.inl 2]) dX11_count_150 msRX11_307 mbX10_worksThatAre rfl rfl (Nat.le_of_ble_eq_true rfl) (Nat.le_of_ble_eq_true rfl) (by omega) (h10 0 (by decide)) rfl rfl (k_X10_worksThatAre (d := d + 2) h10 h) ?_
    rintro _ zM5 zN6 ⟨zr4, rfl, h⟩
    exact j_iret dX11_count_153 rfl ⟨_, rfl, h⟩
  by_cases hs7 : a1 = 7
  · replace h := h.2.2.2.2.2.2.2.1 hs7
    refine j_tabK (k := 7) (tgt := 154) (off := 153) dX11_count_1 hs7 (by decide) (by decide) (by decide) (by decide) ?_
    refine j_aload_n 0 dX11_count_154 rfl ?_
    refine j_getR (b := (0, 0, 1)) dX11_count_155 fsRX11_10 (h0 0 (by decide)) rfl rfl ?_
    refine j_getR (b := (2, 5, 0)) dX11_count_158 fsRX11_123 (h0 1 (by decide)) rfl rfl ?_
    refine j_getI dX11_count_161 fsRX11_141 (h2 5 (by decide) 0 (by decide)) rfl ?_
    exact j_iret dX11_count_164 rfl ⟨_, rfl, h⟩
  by_cases hs8 : a1 = 8
  · replace h := h.2.2.2.2.2.2.2.2.1 hs8
    refine j_tabK (k := 8) (tgt := 165) (off := 164) dX11_count_1 hs8 (by decide) (by decide) (by decide) (by decide) ?_
    refine j_aload_n 0 dX11_count_165 rfl ?_
    refine j_getR (b := (0, 0, 1)) dX11_count_166 fsRX11_10 (h0 0 (by decide)) rfl rfl ?_
    refine j_getR (b := (2, 4, 0)) dX11_count_169 fsRX11_129 (h0 1 (by decide)) rfl rfl ?_
    refine j_getI dX11_count_172 fsRX11_141 (h2 4 (by decide) 0 (by decide)) rfl ?_
    exact j_iret dX11_count_175 rfl ⟨_, rfl, h⟩
  by_cases hs9 : a1 = 9
  · replace h := h.2.2.2.2.2.2.2.2.2.1 hs9
    refine j_tabK (k := 9) (tgt := 176) (off := 175) dX11_count_1 hs9 (by decide) (by decide) (by decide) (by decide) ?_
    refine j_aload_n 0 dX11_count_176 rfl ?_
    refine j_getR (b := (1, 0, 0)) dX11_count_177 fsRX11_28 (h0 0 (by decide)) rfl rfl ?_
    refine j_getR (b := (1, 0, 6)) dX11_count_180 fsRX11_132 (h10 0 (by decide)) rfl rfl ?_
    refine j_getL dX11_count_183 fsRX11_215 (h10 6 (by decide)) rfl ?_
    refine j_invS (As := [.inr (.inl (N (1, 0, 6) 8))]) dX11_count_186 msRX11_310 mbJ13_bitCount_95d88 rfl rfl (Nat.le_of_ble_eq_true rfl) (Nat.le_of_ble_eq_true rfl) (by omega) (k_J13_bitCount_95d88 (d := d + 2)  h) ?_
    rintro _ zM8 zN9 ⟨zr7, rfl, h⟩
    exact j_iret dX11_count_189 rfl ⟨_, rfl, h⟩
  by_cases hs10 : a1 = 10
  · replace h := h.2.2.2.2.2.2.2.2.2.2.1 hs10
    refine j_tabK (k := 10) (tgt := 190) (off := 189) dX11_count_1 hs10 (by decide) (by decide) (by decide) (by decide) ?_
    refine j_aload_n 0 dX11_count_190 rfl ?_
    refine j_getR (b := (1, 0, 0)) dX11_count_191 fsRX11_28 (h0 0 (by decide)) rfl rfl ?_
    refine j_getR (b := (1, 0, 6)) dX11_count_194 fsRX11_132 (h10 0 (by decide)) rfl rfl ?_
    refine j_getL dX11_count_197 fsRX11_218 (h10 6 (by decide)) rfl ?_
    refine j_invS (As := [.inr (.inl (N (1, 0, 6) 9))]) dX11_count_200 msRX11_310 mbJ13_bitCount_95d88 rfl rfl (Nat.le_of_ble_eq_true rfl) (Nat.le_of_ble_eq_true rfl) (by omega) (k_J13_bitCount_95d88 (d := d + 2)  h) ?_
    rintro _ zM11 zN12 ⟨zr10, rfl, h⟩
    exact j_iret dX11_count_203 rfl ⟨_, rfl, h⟩
  by_cases hs11 : a1 = 11
  · replace h := h.2.2.2.2.2.2.2.2.2.2.2.1 hs11
    refine j_tabK (k := 11) (tgt := 204) (off := 203) dX11_count_1 hs11 (by decide) (by decide) (by decide) (by decide) ?_
    refine j_aload_n 0 dX11_count_204 rfl ?_
    refine j_getR (b := (0, 0, 15)) dX11_count_205 fsRX11_52 (h0 0 (by decide)) rfl rfl ?_
    refine j_getR (b := (2, 6, 0)) dX11_count_208 fsRX11_231 (h0 15 (by decide)) rfl rfl ?_
    refine j_getI dX11_count_211 fsRX11_141 (h2 6 (by decide) 0 (by decide)) rfl ?_
    exact j_iret dX11_count_214 rfl ⟨_, rfl, h⟩
  by_cases hs12 : a1 = 12
  · replace h := h.2.2.2.2.2.2.2.2.2.2.2.2.1 hs12
    refine j_tabK (k := 12) (tgt := 215) (off := 214) dX11_count_1 hs12 (by decide) (by decide) (by decide) (by decide) ?_
    refine j_aload_n 0 dX11_count_215 rfl ?_
    refine j_getI dX11_count_216 fsRX11_60 (h0 0 (by decide)) rfl ?_
    exact j_iret dX11_count_219 rfl ⟨_, rfl, h⟩
  by_cases hs13 : a1 = 13
  · replace h := h.2.2.2.2.2.2.2.2.2.2.2.2.2.1 hs13
    refine j_tabK (k := 13) (tgt := 220) (off := 219) dX11_count_1 hs13 (by decide) (by decide) (by decide) (by decide) ?_
    refine j_aload_n 0 dX11_count_220 rfl ?_
    refine j_getR (b := (0, 0, 12)) dX11_count_221 fsRX11_45 (h0 0 (by decide)) rfl rfl ?_
    refine j_getI dX11_count_224 fsRX11_316 (h0 12 (by decide)) rfl ?_
    exact j_iret dX11_count_227 rfl ⟨_, rfl, h⟩
  by_cases hs14 : a1 = 14
  · replace h := h.2.2.2.2.2.2.2.2.2.2.2.2.2.2.1 hs14
    refine j_tabK (k := 14) (tgt := 228) (off := 227) dX11_count_1 hs14 (by decide) (by decide) (by decide) (by decide) ?_
    refine j_aload_n 0 dX11_count_228 rfl ?_
    refine j_getR (b := (0, 0, 7)) dX11_count_229 fsRX11_38 (h0 0 (by decide)) rfl rfl ?_
    refine j_getI dX11_count_232 fsRX11_255 (h0 7 (by decide)) rfl ?_
    exact j_iret dX11_count_235 rfl ⟨_, rfl, h⟩
  by_cases hs15 : a1 = 15
  · replace h := h.2.2.2.2.2.2.2.2.2.2.2.2.2.2.2.1 hs15
    refine j_tabK (k := 15) (tgt := 236) (off := 235) dX11_count_1 hs15 (by decide) (by decide) (by decide) (by decide) ?_
    refine j_aload_n 0 dX11_count_236 rfl ?_
    refine j_getR (b := (1, 0, 0)) dX11_count_237 fsRX11_28 (h0 0 (by decide)) rfl rfl ?_
    refine j_getR (b := (1, 0, 14)) dX11_count_240 fsRX11_110 (h10 0 (by decide)) rfl rfl ?_
    refine j_invV (As := []) dX11_count_243 msRX11_317 mbX1_cartsStuck rfl rfl (Nat.le_of_ble_eq_true rfl) (Nat.le_of_ble_eq_true rfl) (by omega) (h10 14 (by decide)) rfl rfl (k_X1_cartsStuck (d := d + 2) h10 h) ?_
    rintro _ zM14 zN15 ⟨zr13, rfl, h⟩
    exact j_iret dX11_count_246 rfl ⟨_, rfl, h⟩
  by_cases hs16 : a1 = 16
  · replace h := h.2.2.2.2.2.2.2.2.2.2.2.2.2.2.2.2.1 hs16
    refine j_tabK (k := 16) (tgt := 247) (off := 246) dX11_count_1 hs16 (by decide) (by decide) (by decide) (by decide) ?_
    refine j_aload_n 0 dX11_count_247 rfl ?_
    refine j_getR (b := (1, 0, 0)) dX11_count_248 fsRX11_28 (h0 0 (by decide)) rfl rfl ?_
    refine j_getR (b := (1, 0, 6)) dX11_count_251 fsRX11_132 (h10 0 (by decide)) rfl rfl ?_
    refine j_invV (As := []) dX11_count_254 msRX11_320 mbX6_allGot rfl rfl (Nat.le_of_ble_eq_true rfl) (Nat.le_of_ble_eq_true rfl) (by omega) (h10 6 (by decide)) rfl rfl (k_X6_allGot (d := d + 0) h10 h) ?_
    rintro _ zM17 zN18 ⟨zr16, rfl, h⟩
    exact j_iret dX11_count_257 rfl ⟨_, rfl, h⟩
  replace h := h.2.2.2.2.2.2.2.2.2.2.2.2.2.2.2.2.2 hs0 hs1 hs2 hs3 hs4 hs5 hs6 hs7 hs8 hs9 hs10 hs11 hs12 hs13 hs14 hs15 hs16
  refine j_tableOut (tgt := 258) dX11_count_1 (am_sw0 (n := 16) (fun k hk => match k, hk with | 0, _ => hs0 | 1, _ => hs1 | 2, _ => hs2 | 3, _ => hs3 | 4, _ => hs4 | 5, _ => hs5 | 6, _ => hs6 | 7, _ => hs7 | 8, _ => hs8 | 9, _ => hs9 | 10, _ => hs10 | 11, _ => hs11 | 12, _ => hs12 | 13, _ => hs13 | 14, _ => hs14 | 15, _ => hs15 | 16, _ => hs16 | k + 17, hk => absurd hk (by omega))) (by decide) ?_
  refine j_iconst (v := (-1)) dX11_count_258 (by decide) ?_
  exact j_iret dX11_count_259 rfl ⟨_, rfl, h⟩
def w_X11_way (a1 : Int32) (a2 : Int32) (a3 : Int32) (M : am_I) (N : am_N) (post : Int32 → am_I → am_N → Prop) : Prop :=
  w_X9_has 2 a1 M N (fun zr1 zM2 zN3 => ((zr1 = 0 → post (-1) zM2 zN3) ∧ (¬ zr1 = 0 → w_X11_isCell a2 zM2 zN3 (fun zr4 zM5 zN6 => ((¬ zr4 = 0 → w_X5_search 0 a1 (zM5 (1, 0, 22) 0) zM5 zN6 (fun zM7 zN8 => w_X5_hasWay a1 a2 zM7 zN8 (fun zr9 zM10 zN11 => ((¬ zr9 = 0 → ((a3 = 0 → w_X5_costTo a1 a2 zM10 zN11 (fun zr12 zM13 zN14 => post zr12 zM13 zN14)) ∧ (a3 = 1 → w_X5_stepsTo a1 a2 zM10 zN11 (fun zr15 zM16 zN17 => post zr15 zM16 zN17)) ∧ (a3 = 2 → w_X5_firstTo a1 a2 zM10 zN11 (fun zr18 zM19 zN20 => post zr18 zM19 zN20)) ∧ (¬ a3 = 0 → ¬ a3 = 1 → ¬ a3 = 2 → post (-1) zM10 zN11))) ∧ (zr9 = 0 → post (-1) zM10 zN11))))) ∧ (zr4 = 0 → post (-1) zM5 zN6))))))
set_option maxRecDepth 10000 in
theorem k_X11_way {d : Nat} {dm : List am_C} (h0 : am_d0 dm) (h10 : am_d1 dm 0) (h2 : am_d2 dm) {a1 : Int32} {a2 : Int32} {a3 : Int32} {M : am_I} {N : am_N} {post : Int32 → am_I → am_N → Prop} (h : w_X11_way a1 a2 a3 M N post) : jg (d + 4) mX11_way dm 0 [(0, .inr (.inr (0, 0, 0))), (1, .inl a1), (2, .inl a2), (3, .inl a3)] [] M N (am_pi post) := by
  refine j_aload_n 0 dX11_way_0 rfl ?_
  refine j_getR (b := (0, 0, 1)) dX11_way_1 fsRX11_10 (h0 0 (by decide)) rfl rfl ?_
  refine j_getR (b := (2, 2, 0)) dX11_way_4 fsRX11_104 (h0 1 (by decide)) rfl rfl ?_
  refine j_iload_n 1 dX11_way_7 rfl ?_
  refine j_invV (As := [.inl a1]) dX11_way_8 msRX11_107 mbX9_has rfl rfl (Nat.le_of_ble_eq_true rfl) (Nat.le_of_ble_eq_true rfl) (by omega) (h2 2 (by decide) 0 (by decide)) rfl rfl (k_X9_has (d := d + 2) h2 (by decide) h) ?_
  rintro _ zM2 zN3 ⟨zr1, rfl, h⟩
  refine j_if_eq (tgt := 21) dX11_way_11 (by decide) (fun hc => ?_) (fun hc => ?_)
  · replace h := h.1 hc
    refine j_iconst (v := (-1)) dX11_way_21 (by decide) ?_
    exact j_iret dX11_way_22 rfl ⟨_, rfl, h⟩
  · replace h := h.2 hc
    refine j_iload_n 2 dX11_way_14 rfl ?_
    refine j_invS (As := [.inl a2]) dX11_way_15 msRX11_67 mbX11_isCell rfl rfl (Nat.le_of_ble_eq_true rfl) (Nat.le_of_ble_eq_true rfl) (by omega) (k_X11_isCell (d := d + 2)  h) ?_
    rintro _ zM5 zN6 ⟨zr4, rfl, h⟩
    refine j_if_ne (tgt := 23) dX11_way_18 (by decide) (fun hc => ?_) (fun hc => ?_)
    · replace h := h.1 hc
      refine j_aload_n 0 dX11_way_23 rfl ?_
      refine j_getR (b := (0, 0, 2)) dX11_way_24 fsRX11_19 (h0 0 (by decide)) rfl rfl ?_
      refine j_iload_n 1 dX11_way_27 rfl ?_
      refine j_aload_n 0 dX11_way_28 rfl ?_
      refine j_getR (b := (0, 0, 1)) dX11_way_29 fsRX11_10 (h0 0 (by decide)) rfl rfl ?_
      refine j_getR (b := (2, 2, 0)) dX11_way_32 fsRX11_104 (h0 1 (by decide)) rfl rfl ?_
      refine j_aload_n 0 dX11_way_35 rfl ?_
      refine j_getR (b := (1, 0, 0)) dX11_way_36 fsRX11_28 (h0 0 (by decide)) rfl rfl ?_
      refine j_getR (b := (1, 0, 14)) dX11_way_39 fsRX11_110 (h10 0 (by decide)) rfl rfl ?_
      refine j_aload_n 0 dX11_way_42 rfl ?_
      refine j_getR (b := (1, 0, 0)) dX11_way_43 fsRX11_28 (h0 0 (by decide)) rfl rfl ?_
      refine j_getR (b := (1, 0, 1)) dX11_way_46 fsRX11_177 (h10 0 (by decide)) rfl rfl ?_
      refine j_aload_n 0 dX11_way_49 rfl ?_
      refine j_getR (b := (1, 0, 0)) dX11_way_50 fsRX11_28 (h0 0 (by decide)) rfl rfl ?_
      refine j_getR (b := (1, 0, 22)) dX11_way_53 fsRX11_181 (h10 0 (by decide)) rfl rfl ?_
      refine j_iconst (v := 0) dX11_way_56 (by decide) ?_
      refine j_iald dX11_way_57 (h10 22 (by decide)) rfl (by unfold vp_in; decide) ?_
      refine j_invV (As := [.inl a1, .inr (.inr (2, 2, 0)), .inr (.inr (1, 0, 14)), .inr (.inr (1, 0, 1)), .inl (zM5 (1, 0, 22) 0)]) dX11_way_58 msRX11_184 mbX5_search rfl rfl (Nat.le_of_ble_eq_true rfl) (Nat.le_of_ble_eq_true rfl) (by omega) (h0 2 (by decide)) rfl rfl (k_X5_search (d := d + 0) h0 h10 h2 h) ?_
      rintro _ zM7 zN8 ⟨rfl, h⟩
      refine j_aload_n 0 dX11_way_61 rfl ?_
      refine j_getR (b := (0, 0, 2)) dX11_way_62 fsRX11_19 (h0 0 (by decide)) rfl rfl ?_
      refine j_iload_n 1 dX11_way_65 rfl ?_
      refine j_iload_n 2 dX11_way_66 rfl ?_
      refine j_invV (As := [.inl a1, .inl a2]) dX11_way_67 msRX11_188 mbX5_hasWay rfl rfl (Nat.le_of_ble_eq_true rfl) (Nat.le_of_ble_eq_true rfl) (by omega) (h0 2 (by decide)) rfl rfl (k_X5_hasWay (d := d + 2) h0 h) ?_
      rintro _ zM10 zN11 ⟨zr9, rfl, h⟩
      refine j_if_ne (tgt := 75) dX11_way_70 (by decide) (fun hc => ?_) (fun hc => ?_)
      · replace h := h.1 hc
        refine j_iload_n 3 dX11_way_75 rfl ?_
        by_cases hs0 : a3 = 0
        · replace h := h.1 hs0
          refine j_tabK (k := 0) (tgt := 104) (off := 28) dX11_way_76 hs0 (by decide) (by decide) (by decide) (by decide) ?_
          refine j_aload_n 0 dX11_way_104 rfl ?_
          refine j_getR (b := (0, 0, 2)) dX11_way_105 fsRX11_19 (h0 0 (by decide)) rfl rfl ?_
          refine j_iload_n 1 dX11_way_108 rfl ?_
          refine j_iload_n 2 dX11_way_109 rfl ?_
          refine j_invV (As := [.inl a1, .inl a2]) dX11_way_110 msRX11_191 mbX5_costTo rfl rfl (Nat.le_of_ble_eq_true rfl) (Nat.le_of_ble_eq_true rfl) (by omega) (h0 2 (by decide)) rfl rfl (k_X5_costTo (d := d + 1) h0 h) ?_
          rintro _ zM13 zN14 ⟨zr12, rfl, h⟩
          exact j_iret dX11_way_113 rfl ⟨_, rfl, h⟩
        by_cases hs1 : a3 = 1
        · replace h := h.2.1 hs1
          refine j_tabK (k := 1) (tgt := 114) (off := 38) dX11_way_76 hs1 (by decide) (by decide) (by decide) (by decide) ?_
          refine j_aload_n 0 dX11_way_114 rfl ?_
          refine j_getR (b := (0, 0, 2)) dX11_way_115 fsRX11_19 (h0 0 (by decide)) rfl rfl ?_
          refine j_iload_n 1 dX11_way_118 rfl ?_
          refine j_iload_n 2 dX11_way_119 rfl ?_
          refine j_invV (As := [.inl a1, .inl a2]) dX11_way_120 msRX11_194 mbX5_stepsTo rfl rfl (Nat.le_of_ble_eq_true rfl) (Nat.le_of_ble_eq_true rfl) (by omega) (h0 2 (by decide)) rfl rfl (k_X5_stepsTo (d := d + 1) h0 h) ?_
          rintro _ zM16 zN17 ⟨zr15, rfl, h⟩
          exact j_iret dX11_way_123 rfl ⟨_, rfl, h⟩
        by_cases hs2 : a3 = 2
        · replace h := h.2.2.1 hs2
          refine j_tabK (k := 2) (tgt := 124) (off := 48) dX11_way_76 hs2 (by decide) (by decide) (by decide) (by decide) ?_
          refine j_aload_n 0 dX11_way_124 rfl ?_
          refine j_getR (b := (0, 0, 2)) dX11_way_125 fsRX11_19 (h0 0 (by decide)) rfl rfl ?_
          refine j_iload_n 1 dX11_way_128 rfl ?_
          refine j_iload_n 2 dX11_way_129 rfl ?_
          refine j_invV (As := [.inl a1, .inl a2]) dX11_way_130 msRX11_197 mbX5_firstTo rfl rfl (Nat.le_of_ble_eq_true rfl) (Nat.le_of_ble_eq_true rfl) (by omega) (h0 2 (by decide)) rfl rfl (k_X5_firstTo (d := d + 1) h0 h) ?_
          rintro _ zM19 zN20 ⟨zr18, rfl, h⟩
          exact j_iret dX11_way_133 rfl ⟨_, rfl, h⟩
        replace h := h.2.2.2 hs0 hs1 hs2
        refine j_tableOut (tgt := 134) dX11_way_76 (am_sw0 (n := 2) (fun k hk => match k, hk with | 0, _ => hs0 | 1, _ => hs1 | 2, _ => hs2 | k + 3, hk => absurd hk (by omega))) (by decide) ?_
        refine j_iconst (v := (-1)) dX11_way_134 (by decide) ?_
        exact j_iret dX11_way_135 rfl ⟨_, rfl, h⟩
      · replace h := h.2 hc
        refine j_iconst (v := (-1)) dX11_way_73 (by decide) ?_
        exact j_iret dX11_way_74 rfl ⟨_, rfl, h⟩
    · replace h := h.2 hc
      refine j_iconst (v := (-1)) dX11_way_21 (by decide) ?_
      exact j_iret dX11_way_22 rfl ⟨_, rfl, h⟩
def w_X11_spot (a1 : Int32) (a2 : Int32) (M : am_I) (N : am_N) (post : Int32 → am_I → am_N → Prop) : Prop :=
  w_X11_within a1 0 64 M N (fun zr1 zM2 zN3 => ((zr1 = 0 → post (-1) zM2 zN3) ∧ (¬ zr1 = 0 → ((0 ≤ a2 → w_X4_spotOf (zN3 (1, 0, 6) 8) (zN3 (1, 0, 6) 9) a1 a2 zM2 zN3 (fun zr4 zM5 zN6 => post zr4 zM5 zN6)) ∧ (¬ 0 ≤ a2 → post (-1) zM2 zN3)))))
set_option maxRecDepth 10000 in
theorem k_X11_spot {d : Nat} {dm : List am_C} (h0 : am_d0 dm) (h10 : am_d1 dm 0) {a1 : Int32} {a2 : Int32} {M : am_I} {N : am_N} {post : Int32 → am_I → am_N → Prop} (h : w_X11_spot a1 a2 M N post) : jg (d + 4) mX11_spot dm 0 [(0, .inr (.inr (0, 0, 0))), (1, .inl a1), (2, .inl a2)] [] M N (am_pi post) := by
  refine j_iload_n 1 dX11_spot_0 rfl ?_
  refine j_iconst (v := 0) dX11_spot_1 (by decide) ?_
  refine j_bipush (v := 64) dX11_spot_2 (by decide) ?_
  refine j_invS (As := [.inl a1, .inl 0, .inl 64]) dX11_spot_4 msRX11_71 mbX11_within rfl rfl (Nat.le_of_ble_eq_true rfl) (Nat.le_of_ble_eq_true rfl) (by omega) (k_X11_within (d := d + 2)  h) ?_
  rintro _ zM2 zN3 ⟨zr1, rfl, h⟩
  refine j_if_eq (tgt := 14) dX11_spot_7 (by decide) (fun hc => ?_) (fun hc => ?_)
  · replace h := h.1 hc
    refine j_iconst (v := (-1)) dX11_spot_14 (by decide) ?_
    exact j_iret dX11_spot_15 rfl ⟨_, rfl, h⟩
  · replace h := h.2 hc
    refine j_iload_n 2 dX11_spot_10 rfl ?_
    refine j_if_ge (tgt := 16) dX11_spot_11 (by decide) (fun hc => ?_) (fun hc => ?_)
    · replace h := h.1 hc
      refine j_aload_n 0 dX11_spot_16 rfl ?_
      refine j_getR (b := (1, 0, 0)) dX11_spot_17 fsRX11_28 (h0 0 (by decide)) rfl rfl ?_
      refine j_getR (b := (1, 0, 6)) dX11_spot_20 fsRX11_132 (h10 0 (by decide)) rfl rfl ?_
      refine j_getL dX11_spot_23 fsRX11_215 (h10 6 (by decide)) rfl ?_
      refine j_aload_n 0 dX11_spot_26 rfl ?_
      refine j_getR (b := (1, 0, 0)) dX11_spot_27 fsRX11_28 (h0 0 (by decide)) rfl rfl ?_
      refine j_getR (b := (1, 0, 6)) dX11_spot_30 fsRX11_132 (h10 0 (by decide)) rfl rfl ?_
      refine j_getL dX11_spot_33 fsRX11_218 (h10 6 (by decide)) rfl ?_
      refine j_iload_n 1 dX11_spot_36 rfl ?_
      refine j_iload_n 2 dX11_spot_37 rfl ?_
      refine j_invS (As := [.inr (.inl (zN3 (1, 0, 6) 8)), .inr (.inl (zN3 (1, 0, 6) 9)), .inl a1, .inl a2]) dX11_spot_38 msRX11_221 mbX4_spotOf rfl rfl (Nat.le_of_ble_eq_true rfl) (Nat.le_of_ble_eq_true rfl) (by omega) (k_X4_spotOf (d := d + 0)  h) ?_
      rintro _ zM5 zN6 ⟨zr4, rfl, h⟩
      exact j_iret dX11_spot_41 rfl ⟨_, rfl, h⟩
    · replace h := h.2 hc
      refine j_iconst (v := (-1)) dX11_spot_14 (by decide) ?_
      exact j_iret dX11_spot_15 rfl ⟨_, rfl, h⟩
def w_X11_pull (a1 : Int32) (a2 : Int32) (a3 : Int32) (M : am_I) (N : am_N) (post : Int32 → am_I → am_N → Prop) : Prop :=
  w_X11_within a1 1 3 M N (fun zr1 zM2 zN3 => ((zr1 = 0 → post (-1) zM2 zN3) ∧ (¬ zr1 = 0 → w_X11_within a2 0 64 zM2 zN3 (fun zr4 zM5 zN6 => ((zr4 = 0 → post (-1) zM5 zN6) ∧ (¬ zr4 = 0 → ((¬ (zN6 (1, 0, 6) 9) = 0 → w_X4_pullOf (zN6 (1, 0, 6) 8) (zN6 (1, 0, 6) 9) a1 a2 a3 zM5 zN6 (fun zr7 zM8 zN9 => post zr7 zM8 zN9)) ∧ ((zN6 (1, 0, 6) 9) = 0 → post (-1) zM5 zN6))))))))
set_option maxRecDepth 10000 in
theorem k_X11_pull {d : Nat} {dm : List am_C} (h0 : am_d0 dm) (h10 : am_d1 dm 0) {a1 : Int32} {a2 : Int32} {a3 : Int32} {M : am_I} {N : am_N} {post : Int32 → am_I → am_N → Prop} (h : w_X11_pull a1 a2 a3 M N post) : jg (d + 5) mX11_pull dm 0 [(0, .inr (.inr (0, 0, 0))), (1, .inl a1), (2, .inl a2), (3, .inl a3)] [] M N (am_pi post) := by
  refine j_iload_n 1 dX11_pull_0 rfl ?_
  refine j_iconst (v := 1) dX11_pull_1 (by decide) ?_
  refine j_iconst (v := 3) dX11_pull_2 (by decide) ?_
  refine j_invS (As := [.inl a1, .inl 1, .inl 3]) dX11_pull_3 msRX11_71 mbX11_within rfl rfl (Nat.le_of_ble_eq_true rfl) (Nat.le_of_ble_eq_true rfl) (by omega) (k_X11_within (d := d + 3)  h) ?_
  rintro _ zM2 zN3 ⟨zr1, rfl, h⟩
  refine j_if_eq (tgt := 34) dX11_pull_6 (by decide) (fun hc => ?_) (fun hc => ?_)
  · replace h := h.1 hc
    refine j_iconst (v := (-1)) dX11_pull_34 (by decide) ?_
    exact j_iret dX11_pull_35 rfl ⟨_, rfl, h⟩
  · replace h := h.2 hc
    refine j_iload_n 2 dX11_pull_9 rfl ?_
    refine j_iconst (v := 0) dX11_pull_10 (by decide) ?_
    refine j_bipush (v := 64) dX11_pull_11 (by decide) ?_
    refine j_invS (As := [.inl a2, .inl 0, .inl 64]) dX11_pull_13 msRX11_71 mbX11_within rfl rfl (Nat.le_of_ble_eq_true rfl) (Nat.le_of_ble_eq_true rfl) (by omega) (k_X11_within (d := d + 3)  h) ?_
    rintro _ zM5 zN6 ⟨zr4, rfl, h⟩
    refine j_if_eq (tgt := 34) dX11_pull_16 (by decide) (fun hc => ?_) (fun hc => ?_)
    · replace h := h.1 hc
      refine j_iconst (v := (-1)) dX11_pull_34 (by decide) ?_
      exact j_iret dX11_pull_35 rfl ⟨_, rfl, h⟩
    · replace h := h.2 hc
      refine j_aload_n 0 dX11_pull_19 rfl ?_
      refine j_getR (b := (1, 0, 0)) dX11_pull_20 fsRX11_28 (h0 0 (by decide)) rfl rfl ?_
      refine j_getR (b := (1, 0, 6)) dX11_pull_23 fsRX11_132 (h10 0 (by decide)) rfl rfl ?_
      refine j_getL dX11_pull_26 fsRX11_218 (h10 6 (by decide)) rfl ?_
      refine j_lconst (v := 0) dX11_pull_29 (by decide) ?_
      refine j_lcmp_ne (tgt := 36) dX11_pull_30 dX11_pull_31 (by decide) (fun hc => ?_) (fun hc => ?_)
      · replace h := h.1 hc
        refine j_aload_n 0 dX11_pull_36 rfl ?_
        refine j_getR (b := (1, 0, 0)) dX11_pull_37 fsRX11_28 (h0 0 (by decide)) rfl rfl ?_
        refine j_getR (b := (1, 0, 6)) dX11_pull_40 fsRX11_132 (h10 0 (by decide)) rfl rfl ?_
        refine j_getL dX11_pull_43 fsRX11_215 (h10 6 (by decide)) rfl ?_
        refine j_aload_n 0 dX11_pull_46 rfl ?_
        refine j_getR (b := (1, 0, 0)) dX11_pull_47 fsRX11_28 (h0 0 (by decide)) rfl rfl ?_
        refine j_getR (b := (1, 0, 6)) dX11_pull_50 fsRX11_132 (h10 0 (by decide)) rfl rfl ?_
        refine j_getL dX11_pull_53 fsRX11_218 (h10 6 (by decide)) rfl ?_
        refine j_iload_n 1 dX11_pull_56 rfl ?_
        refine j_iload_n 2 dX11_pull_57 rfl ?_
        refine j_iload_n 3 dX11_pull_58 rfl ?_
        refine j_invS (As := [.inr (.inl (zN6 (1, 0, 6) 8)), .inr (.inl (zN6 (1, 0, 6) 9)), .inl a1, .inl a2, .inl a3]) dX11_pull_59 msRX11_227 mbX4_pullOf rfl rfl (Nat.le_of_ble_eq_true rfl) (Nat.le_of_ble_eq_true rfl) (by omega) (k_X4_pullOf (d := d + 0)  h) ?_
        rintro _ zM8 zN9 ⟨zr7, rfl, h⟩
        exact j_iret dX11_pull_62 rfl ⟨_, rfl, h⟩
      · replace h := h.2 hc
        refine j_iconst (v := (-1)) dX11_pull_34 (by decide) ?_
        exact j_iret dX11_pull_35 rfl ⟨_, rfl, h⟩
def w_X11_better (a1 : Int32) (M : am_I) (N : am_N) (post : Int32 → am_I → am_N → Prop) : Prop :=
  ((a1 = 0 → w_X8_waysAsGood M N (fun zr1 zM2 zN3 => post zr1 zM2 zN3)) ∧ (a1 = 1 → w_X8_allWays M N (fun zr4 zM5 zN6 => post zr4 zM5 zN6)) ∧ (a1 = 2 → w_X8_lead M N (fun zr7 zM8 zN9 => post zr7 zM8 zN9)) ∧ (¬ a1 = 0 → ¬ a1 = 1 → ¬ a1 = 2 → post (-2000000000) M N))
set_option maxRecDepth 10000 in
theorem k_X11_better {d : Nat} {dm : List am_C} (h0 : am_d0 dm) (h2 : am_d2 dm) {a1 : Int32} {M : am_I} {N : am_N} {post : Int32 → am_I → am_N → Prop} (h : w_X11_better a1 M N post) : jg (d + 5) mX11_better dm 0 [(0, .inr (.inr (0, 0, 0))), (1, .inl a1)] [] M N (am_pi post) := by
  refine j_iload_n 1 dX11_better_0 rfl ?_
  by_cases hs0 : a1 = 0
  · replace h := h.1 hs0
    refine j_tabK (k := 0) (tgt := 28) (off := 27) dX11_better_1 hs0 (by decide) (by decide) (by decide) (by decide) ?_
    refine j_aload_n 0 dX11_better_28 rfl ?_
    refine j_getR (b := (0, 0, 15)) dX11_better_29 fsRX11_52 (h0 0 (by decide)) rfl rfl ?_
    refine j_invV (As := []) dX11_better_32 msRX11_238 mbX8_waysAsGood rfl rfl (Nat.le_of_ble_eq_true rfl) (Nat.le_of_ble_eq_true rfl) (by omega) (h0 15 (by decide)) rfl rfl (k_X8_waysAsGood (d := d + 0) h0 h2 h) ?_
    rintro _ zM2 zN3 ⟨zr1, rfl, h⟩
    exact j_iret dX11_better_35 rfl ⟨_, rfl, h⟩
  by_cases hs1 : a1 = 1
  · replace h := h.2.1 hs1
    refine j_tabK (k := 1) (tgt := 36) (off := 35) dX11_better_1 hs1 (by decide) (by decide) (by decide) (by decide) ?_
    refine j_aload_n 0 dX11_better_36 rfl ?_
    refine j_getR (b := (0, 0, 15)) dX11_better_37 fsRX11_52 (h0 0 (by decide)) rfl rfl ?_
    refine j_invV (As := []) dX11_better_40 msRX11_242 mbX8_allWays rfl rfl (Nat.le_of_ble_eq_true rfl) (Nat.le_of_ble_eq_true rfl) (by omega) (h0 15 (by decide)) rfl rfl (k_X8_allWays (d := d + 0) h0 h2 h) ?_
    rintro _ zM5 zN6 ⟨zr4, rfl, h⟩
    exact j_iret dX11_better_43 rfl ⟨_, rfl, h⟩
  by_cases hs2 : a1 = 2
  · replace h := h.2.2.1 hs2
    refine j_tabK (k := 2) (tgt := 44) (off := 43) dX11_better_1 hs2 (by decide) (by decide) (by decide) (by decide) ?_
    refine j_aload_n 0 dX11_better_44 rfl ?_
    refine j_getR (b := (0, 0, 15)) dX11_better_45 fsRX11_52 (h0 0 (by decide)) rfl rfl ?_
    refine j_invV (As := []) dX11_better_48 msRX11_245 mbX8_lead rfl rfl (Nat.le_of_ble_eq_true rfl) (Nat.le_of_ble_eq_true rfl) (by omega) (h0 15 (by decide)) rfl rfl (k_X8_lead (d := d + 1) h0 h2 h) ?_
    rintro _ zM8 zN9 ⟨zr7, rfl, h⟩
    exact j_iret dX11_better_51 rfl ⟨_, rfl, h⟩
  replace h := h.2.2.2 hs0 hs1 hs2
  refine j_tableOut (tgt := 52) dX11_better_1 (am_sw0 (n := 2) (fun k hk => match k, hk with | 0, _ => hs0 | 1, _ => hs1 | 2, _ => hs2 | k + 3, hk => absurd hk (by omega))) (by decide) ?_
  refine j_ldc (v := (-2000000000)) dX11_better_52 cw_1053 ?_
  exact j_iret dX11_better_54 rfl ⟨_, rfl, h⟩
def w_X11_tell (a1 : Int32) (a2 : Int32) (a3 : Int32) (a4 : Int32) (M : am_I) (N : am_N) (post : Int32 → am_I → am_N → Prop) : Prop :=
  w_X9_isFull 0 M N (fun zr1 zM2 zN3 => ((zr1 = 0 → w_X9_add 0 (zM2 (1, 0, 0) 8) a1 a2 a3 a4 0 zM2 zN3 (fun zM4 zN5 => w_X10_hearTold 0 zM4 zN5 (fun zM6 zN7 => post 1 zM6 zN7))) ∧ (¬ zr1 = 0 → post 0 zM2 zN3)))
set_option maxRecDepth 10000 in
theorem k_X11_tell {d : Nat} {dm : List am_C} (h0 : am_d0 dm) (h10 : am_d1 dm 0) (h2 : am_d2 dm) {a1 : Int32} {a2 : Int32} {a3 : Int32} {a4 : Int32} {M : am_I} {N : am_N} {post : Int32 → am_I → am_N → Prop} (h : w_X11_tell a1 a2 a3 a4 M N post) : jg (d + 6) mX11_tell dm 0 [(0, .inr (.inr (0, 0, 0))), (1, .inl a1), (2, .inl a2), (3, .inl a3), (4, .inl a4)] [] M N (am_pi post) := by
  refine j_aload_n 0 dX11_tell_0 rfl ?_
  refine j_getR (b := (0, 0, 1)) dX11_tell_1 fsRX11_10 (h0 0 (by decide)) rfl rfl ?_
  refine j_getR (b := (2, 0, 0)) dX11_tell_4 fsRX11_304 (h0 1 (by decide)) rfl rfl ?_
  refine j_invV (As := []) dX11_tell_7 msRX11_234 mbX9_isFull rfl rfl (Nat.le_of_ble_eq_true rfl) (Nat.le_of_ble_eq_true rfl) (by omega) (h2 0 (by decide) 0 (by decide)) rfl rfl (k_X9_isFull (d := d + 4) h2 (by decide) h) ?_
  rintro _ zM2 zN3 ⟨zr1, rfl, h⟩
  refine j_if_eq (tgt := 15) dX11_tell_10 (by decide) (fun hc => ?_) (fun hc => ?_)
  · replace h := h.1 hc
    refine j_aload_n 0 dX11_tell_15 rfl ?_
    refine j_getR (b := (0, 0, 1)) dX11_tell_16 fsRX11_10 (h0 0 (by decide)) rfl rfl ?_
    refine j_getR (b := (2, 0, 0)) dX11_tell_19 fsRX11_304 (h0 1 (by decide)) rfl rfl ?_
    refine j_aload_n 0 dX11_tell_22 rfl ?_
    refine j_getR (b := (1, 0, 0)) dX11_tell_23 fsRX11_28 (h0 0 (by decide)) rfl rfl ?_
    refine j_getI dX11_tell_26 fsRX11_83 (h10 0 (by decide)) rfl ?_
    refine j_iload_n 1 dX11_tell_29 rfl ?_
    refine j_iload_n 2 dX11_tell_30 rfl ?_
    refine j_iload_n 3 dX11_tell_31 rfl ?_
    refine j_iload 4 dX11_tell_32 rfl ?_
    refine j_iconst (v := 0) dX11_tell_34 (by decide) ?_
    refine j_invV (As := [.inl (zM2 (1, 0, 0) 8), .inl a1, .inl a2, .inl a3, .inl a4, .inl 0]) dX11_tell_35 msRX11_94 mbX9_add rfl rfl (Nat.le_of_ble_eq_true rfl) (Nat.le_of_ble_eq_true rfl) (by omega) (h2 0 (by decide) 0 (by decide)) rfl rfl (k_X9_add (d := d + 3) h2 (by decide) h) ?_
    rintro _ zM4 zN5 ⟨rfl, h⟩
    refine j_aload_n 0 dX11_tell_38 rfl ?_
    refine j_getR (b := (1, 0, 0)) dX11_tell_39 fsRX11_28 (h0 0 (by decide)) rfl rfl ?_
    refine j_invV (As := []) dX11_tell_42 msRX11_323 mbX10_hearTold rfl rfl (Nat.le_of_ble_eq_true rfl) (Nat.le_of_ble_eq_true rfl) (by omega) (h10 0 (by decide)) rfl rfl (k_X10_hearTold (d := d + 0) h0 h10 h2 h) ?_
    rintro _ zM6 zN7 ⟨rfl, h⟩
    refine j_iconst (v := 1) dX11_tell_45 (by decide) ?_
    exact j_zret dX11_tell_46 rfl (Or.inr rfl) ⟨_, rfl, h⟩
  · replace h := h.2 hc
    refine j_iconst (v := 0) dX11_tell_13 (by decide) ?_
    exact j_zret dX11_tell_14 rfl (Or.inl rfl) ⟨_, rfl, h⟩
def w_X11_tellNewest (t : Nat) (a1 : Int32) (M : am_I) (N : am_N) (post : Int32 → am_I → am_N → Prop) : Prop :=
  ∀ zv1 : Int32, zv1 = (M (2, t, 0) 3) - 1 → w_X9_add 0 (M (1, 0, 0) 8) a1 zv1 0 0 0 M N (fun zM2 zN3 => w_X10_hearTold 0 zM2 zN3 (fun zM4 zN5 => post zv1 zM4 zN5))
set_option maxRecDepth 10000 in
theorem k_X11_tellNewest {d : Nat} {dm : List am_C} {t : Nat} (h0 : am_d0 dm) (h10 : am_d1 dm 0) (h2 : am_d2 dm) (ht : t < 7) {a1 : Int32} {M : am_I} {N : am_N} {post : Int32 → am_I → am_N → Prop} (h : w_X11_tellNewest t a1 M N post) : jg (d + 6) mX11_tellNewest dm 0 [(0, .inr (.inr (0, 0, 0))), (1, .inl a1), (2, .inr (.inr (2, t, 0)))] [] M N (am_pi post) := by
  refine j_aload_n 2 dX11_tellNewest_0 rfl ?_
  refine j_getI dX11_tellNewest_1 fsRX11_141 (h2 t ht 0 (by decide)) rfl ?_
  refine j_iconst (v := 1) dX11_tellNewest_4 (by decide) ?_
  refine j_isub dX11_tellNewest_5 ?_
  refine j_topi (fun zv1 hzv1 => ?_)
  replace h := h zv1 hzv1
  refine j_istore_n dX11_tellNewest_6 (by decide) rfl ?_
  refine j_aload_n 1 dX11_tellNewest_7 rfl ?_
  refine j_getR (b := (0, 0, 1)) dX11_tellNewest_8 fsRX11_10 (h0 0 (by decide)) rfl rfl ?_
  refine j_getR (b := (2, 0, 0)) dX11_tellNewest_11 fsRX11_304 (h0 1 (by decide)) rfl rfl ?_
  refine j_aload_n 1 dX11_tellNewest_14 rfl ?_
  refine j_getR (b := (1, 0, 0)) dX11_tellNewest_15 fsRX11_28 (h0 0 (by decide)) rfl rfl ?_
  refine j_getI dX11_tellNewest_18 fsRX11_83 (h10 0 (by decide)) rfl ?_
  refine j_iload_n 2 dX11_tellNewest_21 rfl ?_
  refine j_iload_n 0 dX11_tellNewest_22 rfl ?_
  refine j_iconst (v := 0) dX11_tellNewest_23 (by decide) ?_
  refine j_iconst (v := 0) dX11_tellNewest_24 (by decide) ?_
  refine j_iconst (v := 0) dX11_tellNewest_25 (by decide) ?_
  refine j_invV (As := [.inl (M (1, 0, 0) 8), .inl a1, .inl zv1, .inl 0, .inl 0, .inl 0]) dX11_tellNewest_26 msRX11_94 mbX9_add rfl rfl (Nat.le_of_ble_eq_true rfl) (Nat.le_of_ble_eq_true rfl) (by omega) (h2 0 (by decide) 0 (by decide)) rfl rfl (k_X9_add (d := d + 3) h2 (by decide) h) ?_
  rintro _ zM2 zN3 ⟨rfl, h⟩
  refine j_aload_n 1 dX11_tellNewest_29 rfl ?_
  refine j_getR (b := (1, 0, 0)) dX11_tellNewest_30 fsRX11_28 (h0 0 (by decide)) rfl rfl ?_
  refine j_invV (As := []) dX11_tellNewest_33 msRX11_323 mbX10_hearTold rfl rfl (Nat.le_of_ble_eq_true rfl) (Nat.le_of_ble_eq_true rfl) (by omega) (h10 0 (by decide)) rfl rfl (k_X10_hearTold (d := d + 0) h0 h10 h2 h) ?_
  rintro _ zM4 zN5 ⟨rfl, h⟩
  refine j_iload_n 0 dX11_tellNewest_36 rfl ?_
  exact j_iret dX11_tellNewest_37 rfl ⟨_, rfl, h⟩
def w_X11_addWork (a1 : Int32) (a2 : Int32) (a3 : Int32) (M : am_I) (N : am_N) (post : Int32 → am_I → am_N → Prop) : Prop :=
  w_X0_hasRoom 3 M N (fun zr1 zM2 zN3 => ((¬ zr1 = 0 → w_X9_add 3 a1 a2 a3 0 0 0 zM2 zN3 (fun zM4 zN5 => w_X11_tellNewest 3 5 zM4 zN5 (fun zr6 zM7 zN8 => post zr6 zM7 zN8))) ∧ (zr1 = 0 → post (-1) zM2 zN3)))
set_option maxRecDepth 10000 in
theorem k_X11_addWork {d : Nat} {dm : List am_C} (h0 : am_d0 dm) (h10 : am_d1 dm 0) (h2 : am_d2 dm) {a1 : Int32} {a2 : Int32} {a3 : Int32} {M : am_I} {N : am_N} {post : Int32 → am_I → am_N → Prop} (h : w_X11_addWork a1 a2 a3 M N post) : jg (d + 7) mX11_addWork dm 0 [(0, .inr (.inr (0, 0, 0))), (1, .inl a1), (2, .inl a2), (3, .inl a3)] [] M N (am_pi post) := by
  refine j_aload_n 0 dX11_addWork_0 rfl ?_
  refine j_getR (b := (0, 0, 1)) dX11_addWork_1 fsRX11_10 (h0 0 (by decide)) rfl rfl ?_
  refine j_aload_n 0 dX11_addWork_4 rfl ?_
  refine j_getR (b := (0, 0, 1)) dX11_addWork_5 fsRX11_10 (h0 0 (by decide)) rfl rfl ?_
  refine j_getR (b := (2, 3, 0)) dX11_addWork_8 fsRX11_164 (h0 1 (by decide)) rfl rfl ?_
  refine j_invV (As := [.inr (.inr (2, 3, 0))]) dX11_addWork_11 msRX11_90 mbX0_hasRoom rfl rfl (Nat.le_of_ble_eq_true rfl) (Nat.le_of_ble_eq_true rfl) (by omega) (h0 1 (by decide)) rfl rfl (k_X0_hasRoom (d := d + 4) h0 h2 (by decide) h) ?_
  rintro _ zM2 zN3 ⟨zr1, rfl, h⟩
  refine j_if_ne (tgt := 19) dX11_addWork_14 (by decide) (fun hc => ?_) (fun hc => ?_)
  · replace h := h.1 hc
    refine j_aload_n 0 dX11_addWork_19 rfl ?_
    refine j_getR (b := (0, 0, 1)) dX11_addWork_20 fsRX11_10 (h0 0 (by decide)) rfl rfl ?_
    refine j_getR (b := (2, 3, 0)) dX11_addWork_23 fsRX11_164 (h0 1 (by decide)) rfl rfl ?_
    refine j_iload_n 1 dX11_addWork_26 rfl ?_
    refine j_iload_n 2 dX11_addWork_27 rfl ?_
    refine j_iload_n 3 dX11_addWork_28 rfl ?_
    refine j_iconst (v := 0) dX11_addWork_29 (by decide) ?_
    refine j_iconst (v := 0) dX11_addWork_30 (by decide) ?_
    refine j_iconst (v := 0) dX11_addWork_31 (by decide) ?_
    refine j_invV (As := [.inl a1, .inl a2, .inl a3, .inl 0, .inl 0, .inl 0]) dX11_addWork_32 msRX11_94 mbX9_add rfl rfl (Nat.le_of_ble_eq_true rfl) (Nat.le_of_ble_eq_true rfl) (by omega) (h2 3 (by decide) 0 (by decide)) rfl rfl (k_X9_add (d := d + 4) h2 (by decide) h) ?_
    rintro _ zM4 zN5 ⟨rfl, h⟩
    refine j_aload_n 0 dX11_addWork_35 rfl ?_
    refine j_iconst (v := 5) dX11_addWork_36 (by decide) ?_
    refine j_aload_n 0 dX11_addWork_37 rfl ?_
    refine j_getR (b := (0, 0, 1)) dX11_addWork_38 fsRX11_10 (h0 0 (by decide)) rfl rfl ?_
    refine j_getR (b := (2, 3, 0)) dX11_addWork_41 fsRX11_164 (h0 1 (by decide)) rfl rfl ?_
    refine j_invV (As := [.inl 5, .inr (.inr (2, 3, 0))]) dX11_addWork_44 msRX11_100 mbX11_tellNewest rfl rfl (Nat.le_of_ble_eq_true rfl) (Nat.le_of_ble_eq_true rfl) (by omega) (h0 0 (by decide)) rfl rfl (k_X11_tellNewest (d := d + 0) h0 h10 h2 (by decide) h) ?_
    rintro _ zM7 zN8 ⟨zr6, rfl, h⟩
    exact j_iret dX11_addWork_47 rfl ⟨_, rfl, h⟩
  · replace h := h.2 hc
    refine j_iconst (v := (-1)) dX11_addWork_17 (by decide) ?_
    exact j_iret dX11_addWork_18 rfl ⟨_, rfl, h⟩
def w_X11_land (a1 : Int32) (a2 : Int32) (a3 : Int32) (M : am_I) (N : am_N) (post : Int32 → am_I → am_N → Prop) : Prop :=
  w_X11_isCell a1 M N (fun zr1 zM2 zN3 => ((zr1 = 0 → post 0 zM2 zN3) ∧ (¬ zr1 = 0 → w_X11_within a2 0 99 zM2 zN3 (fun zr4 zM5 zN6 => ((zr4 = 0 → post 0 zM5 zN6) ∧ (¬ zr4 = 0 → w_X11_within a3 0 999 zM5 zN6 (fun zr7 zM8 zN9 => ((¬ zr7 = 0 → w_X11_tell 0 a1 a2 a3 zM8 zN9 (fun zr10 zM11 zN12 => (zr10 = 0 ∨ zr10 = 1) ∧ post zr10 zM11 zN12)) ∧ (zr7 = 0 → post 0 zM8 zN9)))))))))
set_option maxRecDepth 10000 in
theorem k_X11_land {d : Nat} {dm : List am_C} (h0 : am_d0 dm) (h10 : am_d1 dm 0) (h2 : am_d2 dm) {a1 : Int32} {a2 : Int32} {a3 : Int32} {M : am_I} {N : am_N} {post : Int32 → am_I → am_N → Prop} (h : w_X11_land a1 a2 a3 M N post) : jg (d + 7) mX11_land dm 0 [(0, .inr (.inr (0, 0, 0))), (1, .inl a1), (2, .inl a2), (3, .inl a3)] [] M N (am_pi post) := by
  refine j_iload_n 1 dX11_land_0 rfl ?_
  refine j_invS (As := [.inl a1]) dX11_land_1 msRX11_67 mbX11_isCell rfl rfl (Nat.le_of_ble_eq_true rfl) (Nat.le_of_ble_eq_true rfl) (by omega) (k_X11_isCell (d := d + 5)  h) ?_
  rintro _ zM2 zN3 ⟨zr1, rfl, h⟩
  refine j_if_eq (tgt := 28) dX11_land_4 (by decide) (fun hc => ?_) (fun hc => ?_)
  · replace h := h.1 hc
    refine j_iconst (v := 0) dX11_land_28 (by decide) ?_
    exact j_zret dX11_land_29 rfl (Or.inl rfl) ⟨_, rfl, h⟩
  · replace h := h.2 hc
    refine j_iload_n 2 dX11_land_7 rfl ?_
    refine j_iconst (v := 0) dX11_land_8 (by decide) ?_
    refine j_bipush (v := 99) dX11_land_9 (by decide) ?_
    refine j_invS (As := [.inl a2, .inl 0, .inl 99]) dX11_land_11 msRX11_71 mbX11_within rfl rfl (Nat.le_of_ble_eq_true rfl) (Nat.le_of_ble_eq_true rfl) (by omega) (k_X11_within (d := d + 5)  h) ?_
    rintro _ zM5 zN6 ⟨zr4, rfl, h⟩
    refine j_if_eq (tgt := 28) dX11_land_14 (by decide) (fun hc => ?_) (fun hc => ?_)
    · replace h := h.1 hc
      refine j_iconst (v := 0) dX11_land_28 (by decide) ?_
      exact j_zret dX11_land_29 rfl (Or.inl rfl) ⟨_, rfl, h⟩
    · replace h := h.2 hc
      refine j_iload_n 3 dX11_land_17 rfl ?_
      refine j_iconst (v := 0) dX11_land_18 (by decide) ?_
      refine j_sipush (v := 999) dX11_land_19 (by decide) ?_
      refine j_invS (As := [.inl a3, .inl 0, .inl 999]) dX11_land_22 msRX11_71 mbX11_within rfl rfl (Nat.le_of_ble_eq_true rfl) (Nat.le_of_ble_eq_true rfl) (by omega) (k_X11_within (d := d + 5)  h) ?_
      rintro _ zM8 zN9 ⟨zr7, rfl, h⟩
      refine j_if_ne (tgt := 30) dX11_land_25 (by decide) (fun hc => ?_) (fun hc => ?_)
      · replace h := h.1 hc
        refine j_aload_n 0 dX11_land_30 rfl ?_
        refine j_iconst (v := 0) dX11_land_31 (by decide) ?_
        refine j_iload_n 1 dX11_land_32 rfl ?_
        refine j_iload_n 2 dX11_land_33 rfl ?_
        refine j_iload_n 3 dX11_land_34 rfl ?_
        refine j_invV (As := [.inl 0, .inl a1, .inl a2, .inl a3]) dX11_land_35 msRX11_75 mbX11_tell rfl rfl (Nat.le_of_ble_eq_true rfl) (Nat.le_of_ble_eq_true rfl) (by omega) (h0 0 (by decide)) rfl rfl (k_X11_tell (d := d + 0) h0 h10 h2 h) ?_
        rintro _ zM11 zN12 ⟨zr10, rfl, h⟩
        exact j_zret dX11_land_38 rfl h.1 ⟨_, rfl, h.2⟩
      · replace h := h.2 hc
        refine j_iconst (v := 0) dX11_land_28 (by decide) ?_
        exact j_zret dX11_land_29 rfl (Or.inl rfl) ⟨_, rfl, h⟩
def w_X11_set (a1 : Int32) (a2 : Int32) (M : am_I) (N : am_N) (post : Int32 → am_I → am_N → Prop) : Prop :=
  w_X11_isSetting a1 a2 M N (fun zr1 zM2 zN3 => ((¬ zr1 = 0 → w_X11_tell 1 a1 a2 0 zM2 zN3 (fun zr4 zM5 zN6 => (zr4 = 0 ∨ zr4 = 1) ∧ post zr4 zM5 zN6)) ∧ (zr1 = 0 → post 0 zM2 zN3)))
set_option maxRecDepth 10000 in
theorem k_X11_set {d : Nat} {dm : List am_C} (h0 : am_d0 dm) (h10 : am_d1 dm 0) (h2 : am_d2 dm) {a1 : Int32} {a2 : Int32} {M : am_I} {N : am_N} {post : Int32 → am_I → am_N → Prop} (h : w_X11_set a1 a2 M N post) : jg (d + 7) mX11_set dm 0 [(0, .inr (.inr (0, 0, 0))), (1, .inl a1), (2, .inl a2)] [] M N (am_pi post) := by
  refine j_iload_n 1 dX11_set_0 rfl ?_
  refine j_iload_n 2 dX11_set_1 rfl ?_
  refine j_invS (As := [.inl a1, .inl a2]) dX11_set_2 msRX11_79 mbX11_isSetting rfl rfl (Nat.le_of_ble_eq_true rfl) (Nat.le_of_ble_eq_true rfl) (by omega) (k_X11_isSetting (d := d + 4)  h) ?_
  rintro _ zM2 zN3 ⟨zr1, rfl, h⟩
  refine j_if_ne (tgt := 10) dX11_set_5 (by decide) (fun hc => ?_) (fun hc => ?_)
  · replace h := h.1 hc
    refine j_aload_n 0 dX11_set_10 rfl ?_
    refine j_iconst (v := 1) dX11_set_11 (by decide) ?_
    refine j_iload_n 1 dX11_set_12 rfl ?_
    refine j_iload_n 2 dX11_set_13 rfl ?_
    refine j_iconst (v := 0) dX11_set_14 (by decide) ?_
    refine j_invV (As := [.inl 1, .inl a1, .inl a2, .inl 0]) dX11_set_15 msRX11_75 mbX11_tell rfl rfl (Nat.le_of_ble_eq_true rfl) (Nat.le_of_ble_eq_true rfl) (by omega) (h0 0 (by decide)) rfl rfl (k_X11_tell (d := d + 0) h0 h10 h2 h) ?_
    rintro _ zM5 zN6 ⟨zr4, rfl, h⟩
    exact j_zret dX11_set_18 rfl h.1 ⟨_, rfl, h.2⟩
  · replace h := h.2 hc
    refine j_iconst (v := 0) dX11_set_8 (by decide) ?_
    exact j_zret dX11_set_9 rfl (Or.inl rfl) ⟨_, rfl, h⟩
def w_X11_rain (a1 : Int32) (a2 : Int32) (a3 : Int32) (M : am_I) (N : am_N) (post : Int32 → am_I → am_N → Prop) : Prop :=
  ((a1 ≤ (M (1, 0, 0) 8) → post (-1) M N) ∧ (¬ a1 ≤ (M (1, 0, 0) 8) → ((a2 < a1 → post (-1) M N) ∧ (¬ a2 < a1 → ((719 < a2 → post (-1) M N) ∧ (¬ 719 < a2 → w_X11_within a3 1 99 M N (fun zr1 zM2 zN3 => ((zr1 = 0 → post (-1) zM2 zN3) ∧ (¬ zr1 = 0 → w_X0_hasRoom 1 zM2 zN3 (fun zr4 zM5 zN6 => ((¬ zr4 = 0 → w_X9_add 1 a1 a2 a3 0 0 0 zM5 zN6 (fun zM7 zN8 => w_X11_tellNewest 1 2 zM7 zN8 (fun zr9 zM10 zN11 => post zr9 zM10 zN11))) ∧ (zr4 = 0 → post (-1) zM5 zN6))))))))))))
set_option maxRecDepth 10000 in
theorem k_X11_rain {d : Nat} {dm : List am_C} (h0 : am_d0 dm) (h10 : am_d1 dm 0) (h2 : am_d2 dm) {a1 : Int32} {a2 : Int32} {a3 : Int32} {M : am_I} {N : am_N} {post : Int32 → am_I → am_N → Prop} (h : w_X11_rain a1 a2 a3 M N post) : jg (d + 7) mX11_rain dm 0 [(0, .inr (.inr (0, 0, 0))), (1, .inl a1), (2, .inl a2), (3, .inl a3)] [] M N (am_pi post) := by
  refine j_iload_n 1 dX11_rain_0 rfl ?_
  refine j_aload_n 0 dX11_rain_1 rfl ?_
  refine j_getR (b := (1, 0, 0)) dX11_rain_2 fsRX11_28 (h0 0 (by decide)) rfl rfl ?_
  refine j_getI dX11_rain_5 fsRX11_83 (h10 0 (by decide)) rfl ?_
  refine j_icmp_le (tgt := 50) dX11_rain_8 (by decide) (fun hc => ?_) (fun hc => ?_)
  · replace h := h.1 hc
    refine j_iconst (v := (-1)) dX11_rain_50 (by decide) ?_
    exact j_iret dX11_rain_51 rfl ⟨_, rfl, h⟩
  · replace h := h.2 hc
    refine j_iload_n 1 dX11_rain_11 rfl ?_
    refine j_iload_n 2 dX11_rain_12 rfl ?_
    refine j_icmp_gt (tgt := 50) dX11_rain_13 (by decide) (fun hc => ?_) (fun hc => ?_)
    · replace h := h.1 hc
      refine j_iconst (v := (-1)) dX11_rain_50 (by decide) ?_
      exact j_iret dX11_rain_51 rfl ⟨_, rfl, h⟩
    · replace h := h.2 hc
      refine j_iload_n 2 dX11_rain_16 rfl ?_
      refine j_sipush (v := 719) dX11_rain_17 (by decide) ?_
      refine j_icmp_gt (tgt := 50) dX11_rain_20 (by decide) (fun hc => ?_) (fun hc => ?_)
      · replace h := h.1 hc
        refine j_iconst (v := (-1)) dX11_rain_50 (by decide) ?_
        exact j_iret dX11_rain_51 rfl ⟨_, rfl, h⟩
      · replace h := h.2 hc
        refine j_iload_n 3 dX11_rain_23 rfl ?_
        refine j_iconst (v := 1) dX11_rain_24 (by decide) ?_
        refine j_bipush (v := 99) dX11_rain_25 (by decide) ?_
        refine j_invS (As := [.inl a3, .inl 1, .inl 99]) dX11_rain_27 msRX11_71 mbX11_within rfl rfl (Nat.le_of_ble_eq_true rfl) (Nat.le_of_ble_eq_true rfl) (by omega) (k_X11_within (d := d + 5)  h) ?_
        rintro _ zM2 zN3 ⟨zr1, rfl, h⟩
        refine j_if_eq (tgt := 50) dX11_rain_30 (by decide) (fun hc => ?_) (fun hc => ?_)
        · replace h := h.1 hc
          refine j_iconst (v := (-1)) dX11_rain_50 (by decide) ?_
          exact j_iret dX11_rain_51 rfl ⟨_, rfl, h⟩
        · replace h := h.2 hc
          refine j_aload_n 0 dX11_rain_33 rfl ?_
          refine j_getR (b := (0, 0, 1)) dX11_rain_34 fsRX11_10 (h0 0 (by decide)) rfl rfl ?_
          refine j_aload_n 0 dX11_rain_37 rfl ?_
          refine j_getR (b := (0, 0, 1)) dX11_rain_38 fsRX11_10 (h0 0 (by decide)) rfl rfl ?_
          refine j_getR (b := (2, 1, 0)) dX11_rain_41 fsRX11_86 (h0 1 (by decide)) rfl rfl ?_
          refine j_invV (As := [.inr (.inr (2, 1, 0))]) dX11_rain_44 msRX11_90 mbX0_hasRoom rfl rfl (Nat.le_of_ble_eq_true rfl) (Nat.le_of_ble_eq_true rfl) (by omega) (h0 1 (by decide)) rfl rfl (k_X0_hasRoom (d := d + 4) h0 h2 (by decide) h) ?_
          rintro _ zM5 zN6 ⟨zr4, rfl, h⟩
          refine j_if_ne (tgt := 52) dX11_rain_47 (by decide) (fun hc => ?_) (fun hc => ?_)
          · replace h := h.1 hc
            refine j_aload_n 0 dX11_rain_52 rfl ?_
            refine j_getR (b := (0, 0, 1)) dX11_rain_53 fsRX11_10 (h0 0 (by decide)) rfl rfl ?_
            refine j_getR (b := (2, 1, 0)) dX11_rain_56 fsRX11_86 (h0 1 (by decide)) rfl rfl ?_
            refine j_iload_n 1 dX11_rain_59 rfl ?_
            refine j_iload_n 2 dX11_rain_60 rfl ?_
            refine j_iload_n 3 dX11_rain_61 rfl ?_
            refine j_iconst (v := 0) dX11_rain_62 (by decide) ?_
            refine j_iconst (v := 0) dX11_rain_63 (by decide) ?_
            refine j_iconst (v := 0) dX11_rain_64 (by decide) ?_
            refine j_invV (As := [.inl a1, .inl a2, .inl a3, .inl 0, .inl 0, .inl 0]) dX11_rain_65 msRX11_94 mbX9_add rfl rfl (Nat.le_of_ble_eq_true rfl) (Nat.le_of_ble_eq_true rfl) (by omega) (h2 1 (by decide) 0 (by decide)) rfl rfl (k_X9_add (d := d + 4) h2 (by decide) h) ?_
            rintro _ zM7 zN8 ⟨rfl, h⟩
            refine j_aload_n 0 dX11_rain_68 rfl ?_
            refine j_iconst (v := 2) dX11_rain_69 (by decide) ?_
            refine j_aload_n 0 dX11_rain_70 rfl ?_
            refine j_getR (b := (0, 0, 1)) dX11_rain_71 fsRX11_10 (h0 0 (by decide)) rfl rfl ?_
            refine j_getR (b := (2, 1, 0)) dX11_rain_74 fsRX11_86 (h0 1 (by decide)) rfl rfl ?_
            refine j_invV (As := [.inl 2, .inr (.inr (2, 1, 0))]) dX11_rain_77 msRX11_100 mbX11_tellNewest rfl rfl (Nat.le_of_ble_eq_true rfl) (Nat.le_of_ble_eq_true rfl) (by omega) (h0 0 (by decide)) rfl rfl (k_X11_tellNewest (d := d + 0) h0 h10 h2 (by decide) h) ?_
            rintro _ zM10 zN11 ⟨zr9, rfl, h⟩
            exact j_iret dX11_rain_80 rfl ⟨_, rfl, h⟩
          · replace h := h.2 hc
            refine j_iconst (v := (-1)) dX11_rain_50 (by decide) ?_
            exact j_iret dX11_rain_51 rfl ⟨_, rfl, h⟩
def w_X11_cart (a1 : Int32) (a2 : Int32) (a3 : Int32) (a4 : Int32) (a5 : Int32) (M : am_I) (N : am_N) (post : Int32 → am_I → am_N → Prop) : Prop :=
  w_X11_within a1 0 3 M N (fun zr1 zM2 zN3 => ((zr1 = 0 → post (-1) zM2 zN3) ∧ (¬ zr1 = 0 → w_X11_within a2 1 50 zM2 zN3 (fun zr4 zM5 zN6 => ((zr4 = 0 → post (-1) zM5 zN6) ∧ (¬ zr4 = 0 → w_X11_within a3 50 999 zM5 zN6 (fun zr7 zM8 zN9 => ((zr7 = 0 → post (-1) zM8 zN9) ∧ (¬ zr7 = 0 → w_X11_isCell a4 zM8 zN9 (fun zr10 zM11 zN12 => ((zr10 = 0 → post (-1) zM11 zN12) ∧ (¬ zr10 = 0 → w_X11_within a5 10 500 zM11 zN12 (fun zr13 zM14 zN15 => ((zr13 = 0 → post (-1) zM14 zN15) ∧ (¬ zr13 = 0 → w_X0_hasRoom 2 zM14 zN15 (fun zr16 zM17 zN18 => ((¬ zr16 = 0 → w_X9_add 2 a1 a2 a3 a4 a5 0 zM17 zN18 (fun zM19 zN20 => w_X11_tellNewest 2 3 zM19 zN20 (fun zr21 zM22 zN23 => post zr21 zM22 zN23))) ∧ (zr16 = 0 → post (-1) zM17 zN18))))))))))))))))))
set_option maxRecDepth 10000 in
theorem k_X11_cart {d : Nat} {dm : List am_C} (h0 : am_d0 dm) (h10 : am_d1 dm 0) (h2 : am_d2 dm) {a1 : Int32} {a2 : Int32} {a3 : Int32} {a4 : Int32} {a5 : Int32} {M : am_I} {N : am_N} {post : Int32 → am_I → am_N → Prop} (h : w_X11_cart a1 a2 a3 a4 a5 M N post) : jg (d + 7) mX11_cart dm 0 [(0, .inr (.inr (0, 0, 0))), (1, .inl a1), (2, .inl a2), (3, .inl a3), (4, .inl a4), (5, .inl a5)] [] M N (am_pi post) := by
  refine j_iload_n 1 dX11_cart_0 rfl ?_
  refine j_iconst (v := 0) dX11_cart_1 (by decide) ?_
  refine j_iconst (v := 3) dX11_cart_2 (by decide) ?_
  refine j_invS (As := [.inl a1, .inl 0, .inl 3]) dX11_cart_3 msRX11_71 mbX11_within rfl rfl (Nat.le_of_ble_eq_true rfl) (Nat.le_of_ble_eq_true rfl) (by omega) (k_X11_within (d := d + 5)  h) ?_
  rintro _ zM2 zN3 ⟨zr1, rfl, h⟩
  refine j_if_eq (tgt := 69) dX11_cart_6 (by decide) (fun hc => ?_) (fun hc => ?_)
  · replace h := h.1 hc
    refine j_iconst (v := (-1)) dX11_cart_69 (by decide) ?_
    exact j_iret dX11_cart_70 rfl ⟨_, rfl, h⟩
  · replace h := h.2 hc
    refine j_iload_n 2 dX11_cart_9 rfl ?_
    refine j_iconst (v := 1) dX11_cart_10 (by decide) ?_
    refine j_bipush (v := 50) dX11_cart_11 (by decide) ?_
    refine j_invS (As := [.inl a2, .inl 1, .inl 50]) dX11_cart_13 msRX11_71 mbX11_within rfl rfl (Nat.le_of_ble_eq_true rfl) (Nat.le_of_ble_eq_true rfl) (by omega) (k_X11_within (d := d + 5)  h) ?_
    rintro _ zM5 zN6 ⟨zr4, rfl, h⟩
    refine j_if_eq (tgt := 69) dX11_cart_16 (by decide) (fun hc => ?_) (fun hc => ?_)
    · replace h := h.1 hc
      refine j_iconst (v := (-1)) dX11_cart_69 (by decide) ?_
      exact j_iret dX11_cart_70 rfl ⟨_, rfl, h⟩
    · replace h := h.2 hc
      refine j_iload_n 3 dX11_cart_19 rfl ?_
      refine j_bipush (v := 50) dX11_cart_20 (by decide) ?_
      refine j_sipush (v := 999) dX11_cart_22 (by decide) ?_
      refine j_invS (As := [.inl a3, .inl 50, .inl 999]) dX11_cart_25 msRX11_71 mbX11_within rfl rfl (Nat.le_of_ble_eq_true rfl) (Nat.le_of_ble_eq_true rfl) (by omega) (k_X11_within (d := d + 5)  h) ?_
      rintro _ zM8 zN9 ⟨zr7, rfl, h⟩
      refine j_if_eq (tgt := 69) dX11_cart_28 (by decide) (fun hc => ?_) (fun hc => ?_)
      · replace h := h.1 hc
        refine j_iconst (v := (-1)) dX11_cart_69 (by decide) ?_
        exact j_iret dX11_cart_70 rfl ⟨_, rfl, h⟩
      · replace h := h.2 hc
        refine j_iload 4 dX11_cart_31 rfl ?_
        refine j_invS (As := [.inl a4]) dX11_cart_33 msRX11_67 mbX11_isCell rfl rfl (Nat.le_of_ble_eq_true rfl) (Nat.le_of_ble_eq_true rfl) (by omega) (k_X11_isCell (d := d + 5)  h) ?_
        rintro _ zM11 zN12 ⟨zr10, rfl, h⟩
        refine j_if_eq (tgt := 69) dX11_cart_36 (by decide) (fun hc => ?_) (fun hc => ?_)
        · replace h := h.1 hc
          refine j_iconst (v := (-1)) dX11_cart_69 (by decide) ?_
          exact j_iret dX11_cart_70 rfl ⟨_, rfl, h⟩
        · replace h := h.2 hc
          refine j_iload 5 dX11_cart_39 rfl ?_
          refine j_bipush (v := 10) dX11_cart_41 (by decide) ?_
          refine j_sipush (v := 500) dX11_cart_43 (by decide) ?_
          refine j_invS (As := [.inl a5, .inl 10, .inl 500]) dX11_cart_46 msRX11_71 mbX11_within rfl rfl (Nat.le_of_ble_eq_true rfl) (Nat.le_of_ble_eq_true rfl) (by omega) (k_X11_within (d := d + 5)  h) ?_
          rintro _ zM14 zN15 ⟨zr13, rfl, h⟩
          refine j_if_eq (tgt := 69) dX11_cart_49 (by decide) (fun hc => ?_) (fun hc => ?_)
          · replace h := h.1 hc
            refine j_iconst (v := (-1)) dX11_cart_69 (by decide) ?_
            exact j_iret dX11_cart_70 rfl ⟨_, rfl, h⟩
          · replace h := h.2 hc
            refine j_aload_n 0 dX11_cart_52 rfl ?_
            refine j_getR (b := (0, 0, 1)) dX11_cart_53 fsRX11_10 (h0 0 (by decide)) rfl rfl ?_
            refine j_aload_n 0 dX11_cart_56 rfl ?_
            refine j_getR (b := (0, 0, 1)) dX11_cart_57 fsRX11_10 (h0 0 (by decide)) rfl rfl ?_
            refine j_getR (b := (2, 2, 0)) dX11_cart_60 fsRX11_104 (h0 1 (by decide)) rfl rfl ?_
            refine j_invV (As := [.inr (.inr (2, 2, 0))]) dX11_cart_63 msRX11_90 mbX0_hasRoom rfl rfl (Nat.le_of_ble_eq_true rfl) (Nat.le_of_ble_eq_true rfl) (by omega) (h0 1 (by decide)) rfl rfl (k_X0_hasRoom (d := d + 4) h0 h2 (by decide) h) ?_
            rintro _ zM17 zN18 ⟨zr16, rfl, h⟩
            refine j_if_ne (tgt := 71) dX11_cart_66 (by decide) (fun hc => ?_) (fun hc => ?_)
            · replace h := h.1 hc
              refine j_aload_n 0 dX11_cart_71 rfl ?_
              refine j_getR (b := (0, 0, 1)) dX11_cart_72 fsRX11_10 (h0 0 (by decide)) rfl rfl ?_
              refine j_getR (b := (2, 2, 0)) dX11_cart_75 fsRX11_104 (h0 1 (by decide)) rfl rfl ?_
              refine j_iload_n 1 dX11_cart_78 rfl ?_
              refine j_iload_n 2 dX11_cart_79 rfl ?_
              refine j_iload_n 3 dX11_cart_80 rfl ?_
              refine j_iload 4 dX11_cart_81 rfl ?_
              refine j_iload 5 dX11_cart_83 rfl ?_
              refine j_iconst (v := 0) dX11_cart_85 (by decide) ?_
              refine j_invV (As := [.inl a1, .inl a2, .inl a3, .inl a4, .inl a5, .inl 0]) dX11_cart_86 msRX11_94 mbX9_add rfl rfl (Nat.le_of_ble_eq_true rfl) (Nat.le_of_ble_eq_true rfl) (by omega) (h2 2 (by decide) 0 (by decide)) rfl rfl (k_X9_add (d := d + 4) h2 (by decide) h) ?_
              rintro _ zM19 zN20 ⟨rfl, h⟩
              refine j_aload_n 0 dX11_cart_89 rfl ?_
              refine j_iconst (v := 3) dX11_cart_90 (by decide) ?_
              refine j_aload_n 0 dX11_cart_91 rfl ?_
              refine j_getR (b := (0, 0, 1)) dX11_cart_92 fsRX11_10 (h0 0 (by decide)) rfl rfl ?_
              refine j_getR (b := (2, 2, 0)) dX11_cart_95 fsRX11_104 (h0 1 (by decide)) rfl rfl ?_
              refine j_invV (As := [.inl 3, .inr (.inr (2, 2, 0))]) dX11_cart_98 msRX11_100 mbX11_tellNewest rfl rfl (Nat.le_of_ble_eq_true rfl) (Nat.le_of_ble_eq_true rfl) (by omega) (h0 0 (by decide)) rfl rfl (k_X11_tellNewest (d := d + 0) h0 h10 h2 (by decide) h) ?_
              rintro _ zM22 zN23 ⟨zr21, rfl, h⟩
              exact j_iret dX11_cart_101 rfl ⟨_, rfl, h⟩
            · replace h := h.2 hc
              refine j_iconst (v := (-1)) dX11_cart_69 (by decide) ?_
              exact j_iret dX11_cart_70 rfl ⟨_, rfl, h⟩
def w_X11_charge (a1 : Int32) (M : am_I) (N : am_N) (post : Int32 → am_I → am_N → Prop) : Prop :=
  w_X9_has 2 a1 M N (fun zr1 zM2 zN3 => ((zr1 = 0 → post 0 zM2 zN3) ∧ (¬ zr1 = 0 → w_X1_isFlat 0 a1 zM2 zN3 (fun zr4 zM5 zN6 => ((¬ zr4 = 0 → w_X11_tell 4 a1 0 0 zM5 zN6 (fun zr7 zM8 zN9 => (zr7 = 0 ∨ zr7 = 1) ∧ post zr7 zM8 zN9)) ∧ (zr4 = 0 → post 0 zM5 zN6))))))
set_option maxRecDepth 10000 in
theorem k_X11_charge {d : Nat} {dm : List am_C} (h0 : am_d0 dm) (h10 : am_d1 dm 0) (h2 : am_d2 dm) {a1 : Int32} {M : am_I} {N : am_N} {post : Int32 → am_I → am_N → Prop} (h : w_X11_charge a1 M N post) : jg (d + 7) mX11_charge dm 0 [(0, .inr (.inr (0, 0, 0))), (1, .inl a1)] [] M N (am_pi post) := by
  refine j_aload_n 0 dX11_charge_0 rfl ?_
  refine j_getR (b := (0, 0, 1)) dX11_charge_1 fsRX11_10 (h0 0 (by decide)) rfl rfl ?_
  refine j_getR (b := (2, 2, 0)) dX11_charge_4 fsRX11_104 (h0 1 (by decide)) rfl rfl ?_
  refine j_iload_n 1 dX11_charge_7 rfl ?_
  refine j_invV (As := [.inl a1]) dX11_charge_8 msRX11_107 mbX9_has rfl rfl (Nat.le_of_ble_eq_true rfl) (Nat.le_of_ble_eq_true rfl) (by omega) (h2 2 (by decide) 0 (by decide)) rfl rfl (k_X9_has (d := d + 5) h2 (by decide) h) ?_
  rintro _ zM2 zN3 ⟨zr1, rfl, h⟩
  refine j_if_eq (tgt := 28) dX11_charge_11 (by decide) (fun hc => ?_) (fun hc => ?_)
  · replace h := h.1 hc
    refine j_iconst (v := 0) dX11_charge_28 (by decide) ?_
    exact j_zret dX11_charge_29 rfl (Or.inl rfl) ⟨_, rfl, h⟩
  · replace h := h.2 hc
    refine j_aload_n 0 dX11_charge_14 rfl ?_
    refine j_getR (b := (1, 0, 0)) dX11_charge_15 fsRX11_28 (h0 0 (by decide)) rfl rfl ?_
    refine j_getR (b := (1, 0, 14)) dX11_charge_18 fsRX11_110 (h10 0 (by decide)) rfl rfl ?_
    refine j_iload_n 1 dX11_charge_21 rfl ?_
    refine j_invV (As := [.inl a1]) dX11_charge_22 msRX11_114 mbX1_isFlat rfl rfl (Nat.le_of_ble_eq_true rfl) (Nat.le_of_ble_eq_true rfl) (by omega) (h10 14 (by decide)) rfl rfl (k_X1_isFlat (d := d + 4) h10 h) ?_
    rintro _ zM5 zN6 ⟨zr4, rfl, h⟩
    refine j_if_ne (tgt := 30) dX11_charge_25 (by decide) (fun hc => ?_) (fun hc => ?_)
    · replace h := h.1 hc
      refine j_aload_n 0 dX11_charge_30 rfl ?_
      refine j_iconst (v := 4) dX11_charge_31 (by decide) ?_
      refine j_iload_n 1 dX11_charge_32 rfl ?_
      refine j_iconst (v := 0) dX11_charge_33 (by decide) ?_
      refine j_iconst (v := 0) dX11_charge_34 (by decide) ?_
      refine j_invV (As := [.inl 4, .inl a1, .inl 0, .inl 0]) dX11_charge_35 msRX11_75 mbX11_tell rfl rfl (Nat.le_of_ble_eq_true rfl) (Nat.le_of_ble_eq_true rfl) (by omega) (h0 0 (by decide)) rfl rfl (k_X11_tell (d := d + 0) h0 h10 h2 h) ?_
      rintro _ zM8 zN9 ⟨zr7, rfl, h⟩
      exact j_zret dX11_charge_38 rfl h.1 ⟨_, rfl, h.2⟩
    · replace h := h.2 hc
      refine j_iconst (v := 0) dX11_charge_28 (by decide) ?_
      exact j_zret dX11_charge_29 rfl (Or.inl rfl) ⟨_, rfl, h⟩
def w_X11_work_p43 (post : Int32 → am_I → am_N → Prop) (l1 : Int32) (l2 : Int32) (l3 : Int32) (M : am_I) (N : am_N) : Prop :=
  w_X11_addWork l1 l2 l3 M N (fun zr1 zM2 zN3 => post zr1 zM2 zN3)
set_option maxRecDepth 10000 in
theorem k_X11_work_p43 {d : Nat} {dm : List am_C} (h0 : am_d0 dm) (h10 : am_d1 dm 0) (h2 : am_d2 dm) {post : Int32 → am_I → am_N → Prop} (l1 : Int32) (l2 : Int32) (l3 : Int32) (M : am_I) (N : am_N) (h : w_X11_work_p43 post l1 l2 l3 M N) : jg (d + 8) mX11_work dm 43 [(0, .inr (.inr (0, 0, 0))), (1, .inl l1), (2, .inl l2), (3, .inl l3)] [] M N (am_pi post) := by
  refine j_aload_n 0 dX11_work_43 rfl ?_
  refine j_iload_n 1 dX11_work_44 rfl ?_
  refine j_iload_n 2 dX11_work_45 rfl ?_
  refine j_iload_n 3 dX11_work_46 rfl ?_
  refine j_invV (As := [.inl l1, .inl l2, .inl l3]) dX11_work_47 msRX11_119 mbX11_addWork rfl rfl (Nat.le_of_ble_eq_true rfl) (Nat.le_of_ble_eq_true rfl) (by omega) (h0 0 (by decide)) rfl rfl (k_X11_addWork (d := d + 0) h0 h10 h2 h) ?_
  rintro _ zM2 zN3 ⟨zr1, rfl, h⟩
  exact j_iret dX11_work_50 rfl ⟨_, rfl, h⟩
def w_X11_work (a1 : Int32) (a2 : Int32) (a3 : Int32) (M : am_I) (N : am_N) (post : Int32 → am_I → am_N → Prop) : Prop :=
  w_X11_within a1 0 3 M N (fun zr1 zM2 zN3 => ((zr1 = 0 → post (-1) zM2 zN3) ∧ (¬ zr1 = 0 → w_X11_isCell a2 zM2 zN3 (fun zr4 zM5 zN6 => ((¬ zr4 = 0 → ((¬ a1 = 2 → ((a3 = 0 → w_X11_work_p43 post a1 a2 a3 zM5 zN6) ∧ (¬ a3 = 0 → post (-1) zM5 zN6))) ∧ (a1 = 2 → w_X11_within a3 1 999 zM5 zN6 (fun zr7 zM8 zN9 => ((¬ zr7 = 0 → w_X11_work_p43 post a1 a2 a3 zM8 zN9) ∧ (zr7 = 0 → post (-1) zM8 zN9)))))) ∧ (zr4 = 0 → post (-1) zM5 zN6))))))
set_option maxRecDepth 10000 in
theorem k_X11_work {d : Nat} {dm : List am_C} (h0 : am_d0 dm) (h10 : am_d1 dm 0) (h2 : am_d2 dm) {a1 : Int32} {a2 : Int32} {a3 : Int32} {M : am_I} {N : am_N} {post : Int32 → am_I → am_N → Prop} (h : w_X11_work a1 a2 a3 M N post) : jg (d + 8) mX11_work dm 0 [(0, .inr (.inr (0, 0, 0))), (1, .inl a1), (2, .inl a2), (3, .inl a3)] [] M N (am_pi post) := by
  refine j_iload_n 1 dX11_work_0 rfl ?_
  refine j_iconst (v := 0) dX11_work_1 (by decide) ?_
  refine j_iconst (v := 3) dX11_work_2 (by decide) ?_
  refine j_invS (As := [.inl a1, .inl 0, .inl 3]) dX11_work_3 msRX11_71 mbX11_within rfl rfl (Nat.le_of_ble_eq_true rfl) (Nat.le_of_ble_eq_true rfl) (by omega) (k_X11_within (d := d + 6)  h) ?_
  rintro _ zM2 zN3 ⟨zr1, rfl, h⟩
  refine j_if_eq (tgt := 16) dX11_work_6 (by decide) (fun hc => ?_) (fun hc => ?_)
  · replace h := h.1 hc
    refine j_iconst (v := (-1)) dX11_work_16 (by decide) ?_
    exact j_iret dX11_work_17 rfl ⟨_, rfl, h⟩
  · replace h := h.2 hc
    refine j_iload_n 2 dX11_work_9 rfl ?_
    refine j_invS (As := [.inl a2]) dX11_work_10 msRX11_67 mbX11_isCell rfl rfl (Nat.le_of_ble_eq_true rfl) (Nat.le_of_ble_eq_true rfl) (by omega) (k_X11_isCell (d := d + 6)  h) ?_
    rintro _ zM5 zN6 ⟨zr4, rfl, h⟩
    refine j_if_ne (tgt := 18) dX11_work_13 (by decide) (fun hc => ?_) (fun hc => ?_)
    · replace h := h.1 hc
      refine j_iload_n 1 dX11_work_18 rfl ?_
      refine j_iconst (v := 2) dX11_work_19 (by decide) ?_
      refine j_icmp_ne (tgt := 37) dX11_work_20 (by decide) (fun hc => ?_) (fun hc => ?_)
      · replace h := h.1 hc
        refine j_iload_n 3 dX11_work_37 rfl ?_
        refine j_if_eq (tgt := 43) dX11_work_38 (by decide) (fun hc => ?_) (fun hc => ?_)
        · replace h := h.1 hc
          refine j_sub [0, 1, 2, 3] rfl ?_
          exact k_X11_work_p43 h0 h10 h2 _ _ _ _ _ h
        · replace h := h.2 hc
          refine j_iconst (v := (-1)) dX11_work_41 (by decide) ?_
          exact j_iret dX11_work_42 rfl ⟨_, rfl, h⟩
      · replace h := h.2 hc
        refine j_iload_n 3 dX11_work_23 rfl ?_
        refine j_iconst (v := 1) dX11_work_24 (by decide) ?_
        refine j_sipush (v := 999) dX11_work_25 (by decide) ?_
        refine j_invS (As := [.inl a3, .inl 1, .inl 999]) dX11_work_28 msRX11_71 mbX11_within rfl rfl (Nat.le_of_ble_eq_true rfl) (Nat.le_of_ble_eq_true rfl) (by omega) (k_X11_within (d := d + 6)  h) ?_
        rintro _ zM8 zN9 ⟨zr7, rfl, h⟩
        refine j_if_ne (tgt := 43) dX11_work_31 (by decide) (fun hc => ?_) (fun hc => ?_)
        · replace h := h.1 hc
          refine j_sub [0, 1, 2, 3] rfl ?_
          exact k_X11_work_p43 h0 h10 h2 _ _ _ _ _ h
        · replace h := h.2 hc
          refine j_goto (tgt := 41) dX11_work_34 (by decide) ?_
          refine j_iconst (v := (-1)) dX11_work_41 (by decide) ?_
          exact j_iret dX11_work_42 rfl ⟨_, rfl, h⟩
    · replace h := h.2 hc
      refine j_iconst (v := (-1)) dX11_work_16 (by decide) ?_
      exact j_iret dX11_work_17 rfl ⟨_, rfl, h⟩
def w_X11_lot (a1 : Int32) (M : am_I) (N : am_N) (post : Int32 → am_I → am_N → Prop) : Prop :=
  w_X11_within a1 0 99 M N (fun zr1 zM2 zN3 => ((zr1 = 0 → post (-1) zM2 zN3) ∧ (¬ zr1 = 0 → w_X0_hasRoom 5 zM2 zN3 (fun zr4 zM5 zN6 => ((¬ zr4 = 0 → w_X9_add 5 a1 0 0 0 0 0 zM5 zN6 (fun zM7 zN8 => w_X11_tellNewest 5 6 zM7 zN8 (fun zr9 zM10 zN11 => post (zr9 + 1) zM10 zN11))) ∧ (zr4 = 0 → post (-1) zM5 zN6))))))
set_option maxRecDepth 10000 in
theorem k_X11_lot {d : Nat} {dm : List am_C} (h0 : am_d0 dm) (h10 : am_d1 dm 0) (h2 : am_d2 dm) {a1 : Int32} {M : am_I} {N : am_N} {post : Int32 → am_I → am_N → Prop} (h : w_X11_lot a1 M N post) : jg (d + 7) mX11_lot dm 0 [(0, .inr (.inr (0, 0, 0))), (1, .inl a1)] [] M N (am_pi post) := by
  refine j_iload_n 1 dX11_lot_0 rfl ?_
  refine j_iconst (v := 0) dX11_lot_1 (by decide) ?_
  refine j_bipush (v := 99) dX11_lot_2 (by decide) ?_
  refine j_invS (As := [.inl a1, .inl 0, .inl 99]) dX11_lot_4 msRX11_71 mbX11_within rfl rfl (Nat.le_of_ble_eq_true rfl) (Nat.le_of_ble_eq_true rfl) (by omega) (k_X11_within (d := d + 5)  h) ?_
  rintro _ zM2 zN3 ⟨zr1, rfl, h⟩
  refine j_if_eq (tgt := 27) dX11_lot_7 (by decide) (fun hc => ?_) (fun hc => ?_)
  · replace h := h.1 hc
    refine j_iconst (v := (-1)) dX11_lot_27 (by decide) ?_
    exact j_iret dX11_lot_28 rfl ⟨_, rfl, h⟩
  · replace h := h.2 hc
    refine j_aload_n 0 dX11_lot_10 rfl ?_
    refine j_getR (b := (0, 0, 1)) dX11_lot_11 fsRX11_10 (h0 0 (by decide)) rfl rfl ?_
    refine j_aload_n 0 dX11_lot_14 rfl ?_
    refine j_getR (b := (0, 0, 1)) dX11_lot_15 fsRX11_10 (h0 0 (by decide)) rfl rfl ?_
    refine j_getR (b := (2, 5, 0)) dX11_lot_18 fsRX11_123 (h0 1 (by decide)) rfl rfl ?_
    refine j_invV (As := [.inr (.inr (2, 5, 0))]) dX11_lot_21 msRX11_90 mbX0_hasRoom rfl rfl (Nat.le_of_ble_eq_true rfl) (Nat.le_of_ble_eq_true rfl) (by omega) (h0 1 (by decide)) rfl rfl (k_X0_hasRoom (d := d + 4) h0 h2 (by decide) h) ?_
    rintro _ zM5 zN6 ⟨zr4, rfl, h⟩
    refine j_if_ne (tgt := 29) dX11_lot_24 (by decide) (fun hc => ?_) (fun hc => ?_)
    · replace h := h.1 hc
      refine j_aload_n 0 dX11_lot_29 rfl ?_
      refine j_getR (b := (0, 0, 1)) dX11_lot_30 fsRX11_10 (h0 0 (by decide)) rfl rfl ?_
      refine j_getR (b := (2, 5, 0)) dX11_lot_33 fsRX11_123 (h0 1 (by decide)) rfl rfl ?_
      refine j_iload_n 1 dX11_lot_36 rfl ?_
      refine j_iconst (v := 0) dX11_lot_37 (by decide) ?_
      refine j_iconst (v := 0) dX11_lot_38 (by decide) ?_
      refine j_iconst (v := 0) dX11_lot_39 (by decide) ?_
      refine j_iconst (v := 0) dX11_lot_40 (by decide) ?_
      refine j_iconst (v := 0) dX11_lot_41 (by decide) ?_
      refine j_invV (As := [.inl a1, .inl 0, .inl 0, .inl 0, .inl 0, .inl 0]) dX11_lot_42 msRX11_94 mbX9_add rfl rfl (Nat.le_of_ble_eq_true rfl) (Nat.le_of_ble_eq_true rfl) (by omega) (h2 5 (by decide) 0 (by decide)) rfl rfl (k_X9_add (d := d + 4) h2 (by decide) h) ?_
      rintro _ zM7 zN8 ⟨rfl, h⟩
      refine j_aload_n 0 dX11_lot_45 rfl ?_
      refine j_bipush (v := 6) dX11_lot_46 (by decide) ?_
      refine j_aload_n 0 dX11_lot_48 rfl ?_
      refine j_getR (b := (0, 0, 1)) dX11_lot_49 fsRX11_10 (h0 0 (by decide)) rfl rfl ?_
      refine j_getR (b := (2, 5, 0)) dX11_lot_52 fsRX11_123 (h0 1 (by decide)) rfl rfl ?_
      refine j_invV (As := [.inl 6, .inr (.inr (2, 5, 0))]) dX11_lot_55 msRX11_100 mbX11_tellNewest rfl rfl (Nat.le_of_ble_eq_true rfl) (Nat.le_of_ble_eq_true rfl) (by omega) (h0 0 (by decide)) rfl rfl (k_X11_tellNewest (d := d + 0) h0 h10 h2 (by decide) h) ?_
      rintro _ zM10 zN11 ⟨zr9, rfl, h⟩
      refine j_iconst (v := 1) dX11_lot_58 (by decide) ?_
      refine j_iadd dX11_lot_59 ?_
      exact j_iret dX11_lot_60 rfl ⟨_, rfl, h⟩
    · replace h := h.2 hc
      refine j_iconst (v := (-1)) dX11_lot_27 (by decide) ?_
      exact j_iret dX11_lot_28 rfl ⟨_, rfl, h⟩
def w_X11_kind_p76 (post : Int32 → am_I → am_N → Prop) (l2 : Int32) (l3 : Int32) (l4 : Int32) (l5 : Int32) (l6 : Int32) (s0 : Int32) (M : am_I) (N : am_N) : Prop :=
  w_X9_add 4 s0 l2 l3 l4 l5 l6 M N (fun zM1 zN2 => w_X11_tellNewest 4 7 zM1 zN2 (fun zr3 zM4 zN5 => post zr3 zM4 zN5))
set_option maxRecDepth 10000 in
theorem k_X11_kind_p76 {d : Nat} {dm : List am_C} (h0 : am_d0 dm) (h10 : am_d1 dm 0) (h2 : am_d2 dm) {post : Int32 → am_I → am_N → Prop} (l2 : Int32) (l3 : Int32) (l4 : Int32) (l5 : Int32) (l6 : Int32) (s0 : Int32) (M : am_I) (N : am_N) (h : w_X11_kind_p76 post l2 l3 l4 l5 l6 s0 M N) : jg (d + 7) mX11_kind dm 76 [(0, .inr (.inr (0, 0, 0))), (2, .inl l2), (3, .inl l3), (4, .inl l4), (5, .inl l5), (6, .inl l6)] [.inl s0, .inr (.inr (2, 4, 0))] M N (am_pi post) := by
  refine j_iload_n 1 dX11_kind_76 rfl ?_
  refine j_iload_n 2 dX11_kind_77 rfl ?_
  refine j_iload 3 dX11_kind_78 rfl ?_
  refine j_iload 4 dX11_kind_80 rfl ?_
  refine j_iload 5 dX11_kind_82 rfl ?_
  refine j_invV (As := [.inl s0, .inl l2, .inl l3, .inl l4, .inl l5, .inl l6]) dX11_kind_84 msRX11_94 mbX9_add rfl rfl (Nat.le_of_ble_eq_true rfl) (Nat.le_of_ble_eq_true rfl) (by omega) (h2 4 (by decide) 0 (by decide)) rfl rfl (k_X9_add (d := d + 4) h2 (by decide) h) ?_
  rintro _ zM1 zN2 ⟨rfl, h⟩
  refine j_aload_n 0 dX11_kind_87 rfl ?_
  refine j_bipush (v := 7) dX11_kind_88 (by decide) ?_
  refine j_aload_n 0 dX11_kind_90 rfl ?_
  refine j_getR (b := (0, 0, 1)) dX11_kind_91 fsRX11_10 (h0 0 (by decide)) rfl rfl ?_
  refine j_getR (b := (2, 4, 0)) dX11_kind_94 fsRX11_129 (h0 1 (by decide)) rfl rfl ?_
  refine j_invV (As := [.inl 7, .inr (.inr (2, 4, 0))]) dX11_kind_97 msRX11_100 mbX11_tellNewest rfl rfl (Nat.le_of_ble_eq_true rfl) (Nat.le_of_ble_eq_true rfl) (by omega) (h0 0 (by decide)) rfl rfl (k_X11_tellNewest (d := d + 0) h0 h10 h2 (by decide) h) ?_
  rintro _ zM4 zN5 ⟨zr3, rfl, h⟩
  exact j_iret dX11_kind_100 rfl ⟨_, rfl, h⟩
def w_X11_kind (a1 : Int32) (a2 : Int32) (a3 : Int32) (a4 : Int32) (a5 : Int32) (a6 : Int32) (M : am_I) (N : am_N) (post : Int32 → am_I → am_N → Prop) : Prop :=
  w_X11_within a2 1 100 M N (fun zr1 zM2 zN3 => ((zr1 = 0 → post (-1) zM2 zN3) ∧ (¬ zr1 = 0 → w_X11_isOdds a3 zM2 zN3 (fun zr4 zM5 zN6 => ((zr4 = 0 → post (-1) zM5 zN6) ∧ (¬ zr4 = 0 → w_X11_isOdds a4 zM5 zN6 (fun zr7 zM8 zN9 => ((zr7 = 0 → post (-1) zM8 zN9) ∧ (¬ zr7 = 0 → w_X11_isOdds a5 zM8 zN9 (fun zr10 zM11 zN12 => ((zr10 = 0 → post (-1) zM11 zN12) ∧ (¬ zr10 = 0 → w_X11_isOdds a6 zM11 zN12 (fun zr13 zM14 zN15 => ((zr13 = 0 → post (-1) zM14 zN15) ∧ (¬ zr13 = 0 → w_X0_hasRoom 4 zM14 zN15 (fun zr16 zM17 zN18 => ((¬ zr16 = 0 → ((a1 = 0 → w_X11_kind_p76 post a2 a3 a4 a5 a6 0 zM17 zN18) ∧ (¬ a1 = 0 → w_X11_kind_p76 post a2 a3 a4 a5 a6 1 zM17 zN18))) ∧ (zr16 = 0 → post (-1) zM17 zN18))))))))))))))))))
set_option maxRecDepth 10000 in
theorem k_X11_kind {d : Nat} {dm : List am_C} (h0 : am_d0 dm) (h10 : am_d1 dm 0) (h2 : am_d2 dm) {a1 : Int32} {a2 : Int32} {a3 : Int32} {a4 : Int32} {a5 : Int32} {a6 : Int32} {M : am_I} {N : am_N} {post : Int32 → am_I → am_N → Prop} (h : w_X11_kind a1 a2 a3 a4 a5 a6 M N post) : jg (d + 7) mX11_kind dm 0 [(0, .inr (.inr (0, 0, 0))), (1, .inl a1), (2, .inl a2), (3, .inl a3), (4, .inl a4), (5, .inl a5), (6, .inl a6)] [] M N (am_pi post) := by
  refine j_iload_n 2 dX11_kind_0 rfl ?_
  refine j_iconst (v := 1) dX11_kind_1 (by decide) ?_
  refine j_bipush (v := 100) dX11_kind_2 (by decide) ?_
  refine j_invS (As := [.inl a2, .inl 1, .inl 100]) dX11_kind_4 msRX11_71 mbX11_within rfl rfl (Nat.le_of_ble_eq_true rfl) (Nat.le_of_ble_eq_true rfl) (by omega) (k_X11_within (d := d + 5)  h) ?_
  rintro _ zM2 zN3 ⟨zr1, rfl, h⟩
  refine j_if_eq (tgt := 58) dX11_kind_7 (by decide) (fun hc => ?_) (fun hc => ?_)
  · replace h := h.1 hc
    refine j_iconst (v := (-1)) dX11_kind_58 (by decide) ?_
    exact j_iret dX11_kind_59 rfl ⟨_, rfl, h⟩
  · replace h := h.2 hc
    refine j_iload_n 3 dX11_kind_10 rfl ?_
    refine j_invS (As := [.inl a3]) dX11_kind_11 msRX11_126 mbX11_isOdds rfl rfl (Nat.le_of_ble_eq_true rfl) (Nat.le_of_ble_eq_true rfl) (by omega) (k_X11_isOdds (d := d + 4)  h) ?_
    rintro _ zM5 zN6 ⟨zr4, rfl, h⟩
    refine j_if_eq (tgt := 58) dX11_kind_14 (by decide) (fun hc => ?_) (fun hc => ?_)
    · replace h := h.1 hc
      refine j_iconst (v := (-1)) dX11_kind_58 (by decide) ?_
      exact j_iret dX11_kind_59 rfl ⟨_, rfl, h⟩
    · replace h := h.2 hc
      refine j_iload 4 dX11_kind_17 rfl ?_
      refine j_invS (As := [.inl a4]) dX11_kind_19 msRX11_126 mbX11_isOdds rfl rfl (Nat.le_of_ble_eq_true rfl) (Nat.le_of_ble_eq_true rfl) (by omega) (k_X11_isOdds (d := d + 4)  h) ?_
      rintro _ zM8 zN9 ⟨zr7, rfl, h⟩
      refine j_if_eq (tgt := 58) dX11_kind_22 (by decide) (fun hc => ?_) (fun hc => ?_)
      · replace h := h.1 hc
        refine j_iconst (v := (-1)) dX11_kind_58 (by decide) ?_
        exact j_iret dX11_kind_59 rfl ⟨_, rfl, h⟩
      · replace h := h.2 hc
        refine j_iload 5 dX11_kind_25 rfl ?_
        refine j_invS (As := [.inl a5]) dX11_kind_27 msRX11_126 mbX11_isOdds rfl rfl (Nat.le_of_ble_eq_true rfl) (Nat.le_of_ble_eq_true rfl) (by omega) (k_X11_isOdds (d := d + 4)  h) ?_
        rintro _ zM11 zN12 ⟨zr10, rfl, h⟩
        refine j_if_eq (tgt := 58) dX11_kind_30 (by decide) (fun hc => ?_) (fun hc => ?_)
        · replace h := h.1 hc
          refine j_iconst (v := (-1)) dX11_kind_58 (by decide) ?_
          exact j_iret dX11_kind_59 rfl ⟨_, rfl, h⟩
        · replace h := h.2 hc
          refine j_iload 6 dX11_kind_33 rfl ?_
          refine j_invS (As := [.inl a6]) dX11_kind_35 msRX11_126 mbX11_isOdds rfl rfl (Nat.le_of_ble_eq_true rfl) (Nat.le_of_ble_eq_true rfl) (by omega) (k_X11_isOdds (d := d + 4)  h) ?_
          rintro _ zM14 zN15 ⟨zr13, rfl, h⟩
          refine j_if_eq (tgt := 58) dX11_kind_38 (by decide) (fun hc => ?_) (fun hc => ?_)
          · replace h := h.1 hc
            refine j_iconst (v := (-1)) dX11_kind_58 (by decide) ?_
            exact j_iret dX11_kind_59 rfl ⟨_, rfl, h⟩
          · replace h := h.2 hc
            refine j_aload_n 0 dX11_kind_41 rfl ?_
            refine j_getR (b := (0, 0, 1)) dX11_kind_42 fsRX11_10 (h0 0 (by decide)) rfl rfl ?_
            refine j_aload_n 0 dX11_kind_45 rfl ?_
            refine j_getR (b := (0, 0, 1)) dX11_kind_46 fsRX11_10 (h0 0 (by decide)) rfl rfl ?_
            refine j_getR (b := (2, 4, 0)) dX11_kind_49 fsRX11_129 (h0 1 (by decide)) rfl rfl ?_
            refine j_invV (As := [.inr (.inr (2, 4, 0))]) dX11_kind_52 msRX11_90 mbX0_hasRoom rfl rfl (Nat.le_of_ble_eq_true rfl) (Nat.le_of_ble_eq_true rfl) (by omega) (h0 1 (by decide)) rfl rfl (k_X0_hasRoom (d := d + 4) h0 h2 (by decide) h) ?_
            rintro _ zM17 zN18 ⟨zr16, rfl, h⟩
            refine j_if_ne (tgt := 60) dX11_kind_55 (by decide) (fun hc => ?_) (fun hc => ?_)
            · replace h := h.1 hc
              refine j_aload_n 0 dX11_kind_60 rfl ?_
              refine j_getR (b := (0, 0, 1)) dX11_kind_61 fsRX11_10 (h0 0 (by decide)) rfl rfl ?_
              refine j_getR (b := (2, 4, 0)) dX11_kind_64 fsRX11_129 (h0 1 (by decide)) rfl rfl ?_
              refine j_iload_n 1 dX11_kind_67 rfl ?_
              refine j_if_eq (tgt := 75) dX11_kind_68 (by decide) (fun hc => ?_) (fun hc => ?_)
              · replace h := h.1 hc
                refine j_iconst (v := 0) dX11_kind_75 (by decide) ?_
                refine j_sub [0, 2, 3, 4, 5, 6] rfl ?_
                exact k_X11_kind_p76 h0 h10 h2 _ _ _ _ _ _ _ _ h
              · replace h := h.2 hc
                refine j_iconst (v := 1) dX11_kind_71 (by decide) ?_
                refine j_goto (tgt := 76) dX11_kind_72 (by decide) ?_
                refine j_sub [0, 2, 3, 4, 5, 6] rfl ?_
                exact k_X11_kind_p76 h0 h10 h2 _ _ _ _ _ _ _ _ h
            · replace h := h.2 hc
              refine j_iconst (v := (-1)) dX11_kind_58 (by decide) ?_
              exact j_iret dX11_kind_59 rfl ⟨_, rfl, h⟩
def w_X11_plant (a1 : Int32) (M : am_I) (N : am_N) (post : Int32 → am_I → am_N → Prop) : Prop :=
  w_X11_isCell a1 M N (fun zr1 zM2 zN3 => ((zr1 = 0 → post 0 zM2 zN3) ∧ (¬ zr1 = 0 → w_X6_standsOn 0 a1 zM2 zN3 (fun zr4 zM5 zN6 => ((¬ zr4 = 0 → post 0 zM5 zN6) ∧ (zr4 = 0 → ((¬ (zM5 (2, 4, 0) 3) = 0 → w_X11_tell 8 a1 0 0 zM5 zN6 (fun zr7 zM8 zN9 => (zr7 = 0 ∨ zr7 = 1) ∧ post zr7 zM8 zN9)) ∧ ((zM5 (2, 4, 0) 3) = 0 → post 0 zM5 zN6))))))))
set_option maxRecDepth 10000 in
theorem k_X11_plant {d : Nat} {dm : List am_C} (h0 : am_d0 dm) (h10 : am_d1 dm 0) (h2 : am_d2 dm) {a1 : Int32} {M : am_I} {N : am_N} {post : Int32 → am_I → am_N → Prop} (h : w_X11_plant a1 M N post) : jg (d + 7) mX11_plant dm 0 [(0, .inr (.inr (0, 0, 0))), (1, .inl a1)] [] M N (am_pi post) := by
  refine j_iload_n 1 dX11_plant_0 rfl ?_
  refine j_invS (As := [.inl a1]) dX11_plant_1 msRX11_67 mbX11_isCell rfl rfl (Nat.le_of_ble_eq_true rfl) (Nat.le_of_ble_eq_true rfl) (by omega) (k_X11_isCell (d := d + 5)  h) ?_
  rintro _ zM2 zN3 ⟨zr1, rfl, h⟩
  refine j_if_eq (tgt := 34) dX11_plant_4 (by decide) (fun hc => ?_) (fun hc => ?_)
  · replace h := h.1 hc
    refine j_iconst (v := 0) dX11_plant_34 (by decide) ?_
    exact j_zret dX11_plant_35 rfl (Or.inl rfl) ⟨_, rfl, h⟩
  · replace h := h.2 hc
    refine j_aload_n 0 dX11_plant_7 rfl ?_
    refine j_getR (b := (1, 0, 0)) dX11_plant_8 fsRX11_28 (h0 0 (by decide)) rfl rfl ?_
    refine j_getR (b := (1, 0, 6)) dX11_plant_11 fsRX11_132 (h10 0 (by decide)) rfl rfl ?_
    refine j_iload_n 1 dX11_plant_14 rfl ?_
    refine j_invV (As := [.inl a1]) dX11_plant_15 msRX11_136 mbX6_standsOn rfl rfl (Nat.le_of_ble_eq_true rfl) (Nat.le_of_ble_eq_true rfl) (by omega) (h10 6 (by decide)) rfl rfl (k_X6_standsOn (d := d + 4) h10 h) ?_
    rintro _ zM5 zN6 ⟨zr4, rfl, h⟩
    refine j_if_ne (tgt := 34) dX11_plant_18 (by decide) (fun hc => ?_) (fun hc => ?_)
    · replace h := h.1 hc
      refine j_iconst (v := 0) dX11_plant_34 (by decide) ?_
      exact j_zret dX11_plant_35 rfl (Or.inl rfl) ⟨_, rfl, h⟩
    · replace h := h.2 hc
      refine j_aload_n 0 dX11_plant_21 rfl ?_
      refine j_getR (b := (0, 0, 1)) dX11_plant_22 fsRX11_10 (h0 0 (by decide)) rfl rfl ?_
      refine j_getR (b := (2, 4, 0)) dX11_plant_25 fsRX11_129 (h0 1 (by decide)) rfl rfl ?_
      refine j_getI dX11_plant_28 fsRX11_141 (h2 4 (by decide) 0 (by decide)) rfl ?_
      refine j_if_ne (tgt := 36) dX11_plant_31 (by decide) (fun hc => ?_) (fun hc => ?_)
      · replace h := h.1 hc
        refine j_aload_n 0 dX11_plant_36 rfl ?_
        refine j_bipush (v := 8) dX11_plant_37 (by decide) ?_
        refine j_iload_n 1 dX11_plant_39 rfl ?_
        refine j_iconst (v := 0) dX11_plant_40 (by decide) ?_
        refine j_iconst (v := 0) dX11_plant_41 (by decide) ?_
        refine j_invV (As := [.inl 8, .inl a1, .inl 0, .inl 0]) dX11_plant_42 msRX11_75 mbX11_tell rfl rfl (Nat.le_of_ble_eq_true rfl) (Nat.le_of_ble_eq_true rfl) (by omega) (h0 0 (by decide)) rfl rfl (k_X11_tell (d := d + 0) h0 h10 h2 h) ?_
        rintro _ zM8 zN9 ⟨zr7, rfl, h⟩
        exact j_zret dX11_plant_45 rfl h.1 ⟨_, rfl, h.2⟩
      · replace h := h.2 hc
        refine j_iconst (v := 0) dX11_plant_34 (by decide) ?_
        exact j_zret dX11_plant_35 rfl (Or.inl rfl) ⟨_, rfl, h⟩
def w_X11_show (a1 : Int32) (a2 : Int32) (M : am_I) (N : am_N) (post : Int32 → am_I → am_N → Prop) : Prop :=
  w_X11_isCell a1 M N (fun zr1 zM2 zN3 => ((zr1 = 0 → post 0 zM2 zN3) ∧ (¬ zr1 = 0 → w_X11_areMarks a2 zM2 zN3 (fun zr4 zM5 zN6 => ((¬ zr4 = 0 → w_X11_tell 9 a1 a2 0 zM5 zN6 (fun zr7 zM8 zN9 => (zr7 = 0 ∨ zr7 = 1) ∧ post zr7 zM8 zN9)) ∧ (zr4 = 0 → post 0 zM5 zN6))))))
set_option maxRecDepth 10000 in
theorem k_X11_show {d : Nat} {dm : List am_C} (h0 : am_d0 dm) (h10 : am_d1 dm 0) (h2 : am_d2 dm) {a1 : Int32} {a2 : Int32} {M : am_I} {N : am_N} {post : Int32 → am_I → am_N → Prop} (h : w_X11_show a1 a2 M N post) : jg (d + 7) mX11_show dm 0 [(0, .inr (.inr (0, 0, 0))), (1, .inl a1), (2, .inl a2)] [] M N (am_pi post) := by
  refine j_iload_n 1 dX11_show_0 rfl ?_
  refine j_invS (As := [.inl a1]) dX11_show_1 msRX11_67 mbX11_isCell rfl rfl (Nat.le_of_ble_eq_true rfl) (Nat.le_of_ble_eq_true rfl) (by omega) (k_X11_isCell (d := d + 5)  h) ?_
  rintro _ zM2 zN3 ⟨zr1, rfl, h⟩
  refine j_if_eq (tgt := 14) dX11_show_4 (by decide) (fun hc => ?_) (fun hc => ?_)
  · replace h := h.1 hc
    refine j_iconst (v := 0) dX11_show_14 (by decide) ?_
    exact j_zret dX11_show_15 rfl (Or.inl rfl) ⟨_, rfl, h⟩
  · replace h := h.2 hc
    refine j_iload_n 2 dX11_show_7 rfl ?_
    refine j_invS (As := [.inl a2]) dX11_show_8 msRX11_144 mbX11_areMarks rfl rfl (Nat.le_of_ble_eq_true rfl) (Nat.le_of_ble_eq_true rfl) (by omega) (k_X11_areMarks (d := d + 4)  h) ?_
    rintro _ zM5 zN6 ⟨zr4, rfl, h⟩
    refine j_if_ne (tgt := 16) dX11_show_11 (by decide) (fun hc => ?_) (fun hc => ?_)
    · replace h := h.1 hc
      refine j_aload_n 0 dX11_show_16 rfl ?_
      refine j_bipush (v := 9) dX11_show_17 (by decide) ?_
      refine j_iload_n 1 dX11_show_19 rfl ?_
      refine j_iload_n 2 dX11_show_20 rfl ?_
      refine j_iconst (v := 0) dX11_show_21 (by decide) ?_
      refine j_invV (As := [.inl 9, .inl a1, .inl a2, .inl 0]) dX11_show_22 msRX11_75 mbX11_tell rfl rfl (Nat.le_of_ble_eq_true rfl) (Nat.le_of_ble_eq_true rfl) (by omega) (h0 0 (by decide)) rfl rfl (k_X11_tell (d := d + 0) h0 h10 h2 h) ?_
      rintro _ zM8 zN9 ⟨zr7, rfl, h⟩
      exact j_zret dX11_show_25 rfl h.1 ⟨_, rfl, h.2⟩
    · replace h := h.2 hc
      refine j_iconst (v := 0) dX11_show_14 (by decide) ?_
      exact j_zret dX11_show_15 rfl (Or.inl rfl) ⟨_, rfl, h⟩
def w_X11_look (a1 : Int32) (a2 : Int32) (M : am_I) (N : am_N) (post : Int32 → am_I → am_N → Prop) : Prop :=
  w_X6_standsOn 0 a1 M N (fun zr1 zM2 zN3 => ((zr1 = 0 → post 0 zM2 zN3) ∧ (¬ zr1 = 0 → w_X11_areMarks a2 zM2 zN3 (fun zr4 zM5 zN6 => ((¬ zr4 = 0 → w_X11_tell 10 a1 a2 0 zM5 zN6 (fun zr7 zM8 zN9 => (zr7 = 0 ∨ zr7 = 1) ∧ post zr7 zM8 zN9)) ∧ (zr4 = 0 → post 0 zM5 zN6))))))
set_option maxRecDepth 10000 in
theorem k_X11_look {d : Nat} {dm : List am_C} (h0 : am_d0 dm) (h10 : am_d1 dm 0) (h2 : am_d2 dm) {a1 : Int32} {a2 : Int32} {M : am_I} {N : am_N} {post : Int32 → am_I → am_N → Prop} (h : w_X11_look a1 a2 M N post) : jg (d + 7) mX11_look dm 0 [(0, .inr (.inr (0, 0, 0))), (1, .inl a1), (2, .inl a2)] [] M N (am_pi post) := by
  refine j_aload_n 0 dX11_look_0 rfl ?_
  refine j_getR (b := (1, 0, 0)) dX11_look_1 fsRX11_28 (h0 0 (by decide)) rfl rfl ?_
  refine j_getR (b := (1, 0, 6)) dX11_look_4 fsRX11_132 (h10 0 (by decide)) rfl rfl ?_
  refine j_iload_n 1 dX11_look_7 rfl ?_
  refine j_invV (As := [.inl a1]) dX11_look_8 msRX11_136 mbX6_standsOn rfl rfl (Nat.le_of_ble_eq_true rfl) (Nat.le_of_ble_eq_true rfl) (by omega) (h10 6 (by decide)) rfl rfl (k_X6_standsOn (d := d + 4) h10 h) ?_
  rintro _ zM2 zN3 ⟨zr1, rfl, h⟩
  refine j_if_eq (tgt := 21) dX11_look_11 (by decide) (fun hc => ?_) (fun hc => ?_)
  · replace h := h.1 hc
    refine j_iconst (v := 0) dX11_look_21 (by decide) ?_
    exact j_zret dX11_look_22 rfl (Or.inl rfl) ⟨_, rfl, h⟩
  · replace h := h.2 hc
    refine j_iload_n 2 dX11_look_14 rfl ?_
    refine j_invS (As := [.inl a2]) dX11_look_15 msRX11_144 mbX11_areMarks rfl rfl (Nat.le_of_ble_eq_true rfl) (Nat.le_of_ble_eq_true rfl) (by omega) (k_X11_areMarks (d := d + 4)  h) ?_
    rintro _ zM5 zN6 ⟨zr4, rfl, h⟩
    refine j_if_ne (tgt := 23) dX11_look_18 (by decide) (fun hc => ?_) (fun hc => ?_)
    · replace h := h.1 hc
      refine j_aload_n 0 dX11_look_23 rfl ?_
      refine j_bipush (v := 10) dX11_look_24 (by decide) ?_
      refine j_iload_n 1 dX11_look_26 rfl ?_
      refine j_iload_n 2 dX11_look_27 rfl ?_
      refine j_iconst (v := 0) dX11_look_28 (by decide) ?_
      refine j_invV (As := [.inl 10, .inl a1, .inl a2, .inl 0]) dX11_look_29 msRX11_75 mbX11_tell rfl rfl (Nat.le_of_ble_eq_true rfl) (Nat.le_of_ble_eq_true rfl) (by omega) (h0 0 (by decide)) rfl rfl (k_X11_tell (d := d + 0) h0 h10 h2 h) ?_
      rintro _ zM8 zN9 ⟨zr7, rfl, h⟩
      exact j_zret dX11_look_32 rfl h.1 ⟨_, rfl, h.2⟩
    · replace h := h.2 hc
      refine j_iconst (v := 0) dX11_look_21 (by decide) ?_
      exact j_zret dX11_look_22 rfl (Or.inl rfl) ⟨_, rfl, h⟩
def w_X11_ill_p44 (post : Int32 → am_I → am_N → Prop) (s0 : Int32) (s1 : Int32) (s2 : Int32) (M : am_I) (N : am_N) : Prop :=
  w_X11_tell s2 s1 s0 0 M N (fun zr1 zM2 zN3 => (zr1 = 0 ∨ zr1 = 1) ∧ post zr1 zM2 zN3)
set_option maxRecDepth 10000 in
theorem k_X11_ill_p44 {d : Nat} {dm : List am_C} (h0 : am_d0 dm) (h10 : am_d1 dm 0) (h2 : am_d2 dm) {post : Int32 → am_I → am_N → Prop} (s0 : Int32) (s1 : Int32) (s2 : Int32) (M : am_I) (N : am_N) (h : w_X11_ill_p44 post s0 s1 s2 M N) : jg (d + 7) mX11_ill dm 44 [] [.inl s0, .inl s1, .inl s2, .inr (.inr (0, 0, 0))] M N (am_pi post) := by
  refine j_iconst (v := 0) dX11_ill_44 (by decide) ?_
  refine j_invV (As := [.inl s2, .inl s1, .inl s0, .inl 0]) dX11_ill_45 msRX11_75 mbX11_tell rfl rfl (Nat.le_of_ble_eq_true rfl) (Nat.le_of_ble_eq_true rfl) (by omega) (h0 0 (by decide)) rfl rfl (k_X11_tell (d := d + 0) h0 h10 h2 h) ?_
  rintro _ zM2 zN3 ⟨zr1, rfl, h⟩
  exact j_zret dX11_ill_48 rfl h.1 ⟨_, rfl, h.2⟩
def w_X11_ill (a1 : Int32) (a2 : Int32) (M : am_I) (N : am_N) (post : Int32 → am_I → am_N → Prop) : Prop :=
  w_X6_standsOn 0 a1 M N (fun zr1 zM2 zN3 => ((zr1 = 0 → post 0 zM2 zN3) ∧ (¬ zr1 = 0 → w_X6_isIll 0 a1 zM2 zN3 (fun zr4 zM5 zN6 => ((¬ zr4 = a2 → ((a2 = 0 → w_X11_ill_p44 post 0 a1 11 zM5 zN6) ∧ (¬ a2 = 0 → w_X11_ill_p44 post 1 a1 11 zM5 zN6))) ∧ (zr4 = a2 → post 0 zM5 zN6))))))
set_option maxRecDepth 10000 in
theorem k_X11_ill {d : Nat} {dm : List am_C} (h0 : am_d0 dm) (h10 : am_d1 dm 0) (h2 : am_d2 dm) {a1 : Int32} {a2 : Int32} {M : am_I} {N : am_N} {post : Int32 → am_I → am_N → Prop} (h : w_X11_ill a1 a2 M N post) : jg (d + 7) mX11_ill dm 0 [(0, .inr (.inr (0, 0, 0))), (1, .inl a1), (2, .inl a2)] [] M N (am_pi post) := by
  refine j_aload_n 0 dX11_ill_0 rfl ?_
  refine j_getR (b := (1, 0, 0)) dX11_ill_1 fsRX11_28 (h0 0 (by decide)) rfl rfl ?_
  refine j_getR (b := (1, 0, 6)) dX11_ill_4 fsRX11_132 (h10 0 (by decide)) rfl rfl ?_
  refine j_iload_n 1 dX11_ill_7 rfl ?_
  refine j_invV (As := [.inl a1]) dX11_ill_8 msRX11_136 mbX6_standsOn rfl rfl (Nat.le_of_ble_eq_true rfl) (Nat.le_of_ble_eq_true rfl) (by omega) (h10 6 (by decide)) rfl rfl (k_X6_standsOn (d := d + 4) h10 h) ?_
  rintro _ zM2 zN3 ⟨zr1, rfl, h⟩
  refine j_if_eq (tgt := 29) dX11_ill_11 (by decide) (fun hc => ?_) (fun hc => ?_)
  · replace h := h.1 hc
    refine j_iconst (v := 0) dX11_ill_29 (by decide) ?_
    exact j_zret dX11_ill_30 rfl (Or.inl rfl) ⟨_, rfl, h⟩
  · replace h := h.2 hc
    refine j_aload_n 0 dX11_ill_14 rfl ?_
    refine j_getR (b := (1, 0, 0)) dX11_ill_15 fsRX11_28 (h0 0 (by decide)) rfl rfl ?_
    refine j_getR (b := (1, 0, 6)) dX11_ill_18 fsRX11_132 (h10 0 (by decide)) rfl rfl ?_
    refine j_iload_n 1 dX11_ill_21 rfl ?_
    refine j_invV (As := [.inl a1]) dX11_ill_22 msRX11_147 mbX6_isIll rfl rfl (Nat.le_of_ble_eq_true rfl) (Nat.le_of_ble_eq_true rfl) (by omega) (h10 6 (by decide)) rfl rfl (k_X6_isIll (d := d + 4) h10 h) ?_
    rintro _ zM5 zN6 ⟨zr4, rfl, h⟩
    refine j_iload_n 2 dX11_ill_25 rfl ?_
    refine j_icmp_ne (tgt := 31) dX11_ill_26 (by decide) (fun hc => ?_) (fun hc => ?_)
    · replace h := h.1 hc
      refine j_aload_n 0 dX11_ill_31 rfl ?_
      refine j_bipush (v := 11) dX11_ill_32 (by decide) ?_
      refine j_iload_n 1 dX11_ill_34 rfl ?_
      refine j_iload_n 2 dX11_ill_35 rfl ?_
      refine j_if_eq (tgt := 43) dX11_ill_36 (by decide) (fun hc => ?_) (fun hc => ?_)
      · replace h := h.1 hc
        refine j_iconst (v := 0) dX11_ill_43 (by decide) ?_
        refine j_sub [] rfl ?_
        exact k_X11_ill_p44 h0 h10 h2 _ _ _ _ _ h
      · replace h := h.2 hc
        refine j_iconst (v := 1) dX11_ill_39 (by decide) ?_
        refine j_goto (tgt := 44) dX11_ill_40 (by decide) ?_
        refine j_sub [] rfl ?_
        exact k_X11_ill_p44 h0 h10 h2 _ _ _ _ _ h
    · replace h := h.2 hc
      refine j_iconst (v := 0) dX11_ill_29 (by decide) ?_
      exact j_zret dX11_ill_30 rfl (Or.inl rfl) ⟨_, rfl, h⟩
def w_X11_findsAct (a1 : Int32) (M : am_I) (N : am_N) (post : Int32 → am_I → am_N → Prop) : Prop :=
  w_X6_standsOn 0 a1 M N (fun zr1 zM2 zN3 => ((¬ zr1 = 0 → w_X10_gatherFacts 0 a1 zM2 zN3 (fun zM4 zN5 => w_X3_decide zM4 zN5 (fun zr6 zM7 zN8 => (zr6 = 0 ∨ zr6 = 1) ∧ post zr6 zM7 zN8))) ∧ (zr1 = 0 → post 0 zM2 zN3)))
set_option maxRecDepth 10000 in
theorem k_X11_findsAct {d : Nat} {dm : List am_C} (h0 : am_d0 dm) (h10 : am_d1 dm 0) (h2 : am_d2 dm) {a1 : Int32} {M : am_I} {N : am_N} {post : Int32 → am_I → am_N → Prop} (h : w_X11_findsAct a1 M N post) : jg (d + 6) mX11_findsAct dm 0 [(0, .inr (.inr (0, 0, 0))), (1, .inl a1)] [] M N (am_pi post) := by
  refine j_aload_n 0 dX11_findsAct_0 rfl ?_
  refine j_getR (b := (1, 0, 0)) dX11_findsAct_1 fsRX11_28 (h0 0 (by decide)) rfl rfl ?_
  refine j_getR (b := (1, 0, 6)) dX11_findsAct_4 fsRX11_132 (h10 0 (by decide)) rfl rfl ?_
  refine j_iload_n 1 dX11_findsAct_7 rfl ?_
  refine j_invV (As := [.inl a1]) dX11_findsAct_8 msRX11_136 mbX6_standsOn rfl rfl (Nat.le_of_ble_eq_true rfl) (Nat.le_of_ble_eq_true rfl) (by omega) (h10 6 (by decide)) rfl rfl (k_X6_standsOn (d := d + 3) h10 h) ?_
  rintro _ zM2 zN3 ⟨zr1, rfl, h⟩
  refine j_if_ne (tgt := 16) dX11_findsAct_11 (by decide) (fun hc => ?_) (fun hc => ?_)
  · replace h := h.1 hc
    refine j_aload_n 0 dX11_findsAct_16 rfl ?_
    refine j_getR (b := (1, 0, 0)) dX11_findsAct_17 fsRX11_28 (h0 0 (by decide)) rfl rfl ?_
    refine j_iload_n 1 dX11_findsAct_20 rfl ?_
    refine j_aload_n 0 dX11_findsAct_21 rfl ?_
    refine j_getR (b := (0, 0, 16)) dX11_findsAct_22 fsRX11_56 (h0 0 (by decide)) rfl rfl ?_
    refine j_invV (As := [.inl a1, .inr (.inr (0, 0, 16))]) dX11_findsAct_25 msRX11_326 mbX10_gatherFacts rfl rfl (Nat.le_of_ble_eq_true rfl) (Nat.le_of_ble_eq_true rfl) (by omega) (h10 0 (by decide)) rfl rfl (k_X10_gatherFacts (d := d + 1) h0 h10 h2 h) ?_
    rintro _ zM4 zN5 ⟨rfl, h⟩
    refine j_aload_n 0 dX11_findsAct_28 rfl ?_
    refine j_getR (b := (0, 0, 12)) dX11_findsAct_29 fsRX11_45 (h0 0 (by decide)) rfl rfl ?_
    refine j_aload_n 0 dX11_findsAct_32 rfl ?_
    refine j_getR (b := (0, 0, 16)) dX11_findsAct_33 fsRX11_56 (h0 0 (by decide)) rfl rfl ?_
    refine j_invV (As := [.inr (.inr (0, 0, 16))]) dX11_findsAct_36 msRX11_330 mbX3_decide rfl rfl (Nat.le_of_ble_eq_true rfl) (Nat.le_of_ble_eq_true rfl) (by omega) (h0 12 (by decide)) rfl rfl (k_X3_decide (d := d + 0) h0 h) ?_
    rintro _ zM7 zN8 ⟨zr6, rfl, h⟩
    exact j_zret dX11_findsAct_39 rfl h.1 ⟨_, rfl, h.2⟩
  · replace h := h.2 hc
    refine j_iconst (v := 0) dX11_findsAct_14 (by decide) ?_
    exact j_zret dX11_findsAct_15 rfl (Or.inl rfl) ⟨_, rfl, h⟩
def w_X11_pass (a1 : Int32) (M : am_I) (N : am_N) (post : Int32 → am_I → am_N → Prop) : Prop :=
  w_X11_within a1 1 200 M N (fun zr1 zM2 zN3 => ((zr1 = 0 → post (-1) zM2 zN3) ∧ (¬ zr1 = 0 → ((((zM2 (1, 0, 0) 8) + a1) ≤ 719 → w_X10_playTo 0 ((zM2 (1, 0, 0) 8) + a1) zM2 zN3 (fun zM4 zN5 => post (zM4 (1, 0, 0) 8) zM4 zN5)) ∧ (¬ ((zM2 (1, 0, 0) 8) + a1) ≤ 719 → post (-1) zM2 zN3)))))
set_option maxRecDepth 10000 in
theorem k_X11_pass {d : Nat} {dm : List am_C} (h0 : am_d0 dm) (h10 : am_d1 dm 0) (h2 : am_d2 dm) {a1 : Int32} {M : am_I} {N : am_N} {post : Int32 → am_I → am_N → Prop} (h : w_X11_pass a1 M N post) : jg (d + 8) mX11_pass dm 0 [(0, .inr (.inr (0, 0, 0))), (1, .inl a1)] [] M N (am_pi post) := by
  refine j_iload_n 1 dX11_pass_0 rfl ?_
  refine j_iconst (v := 1) dX11_pass_1 (by decide) ?_
  refine j_sipush (v := 200) dX11_pass_2 (by decide) ?_
  refine j_invS (As := [.inl a1, .inl 1, .inl 200]) dX11_pass_5 msRX11_71 mbX11_within rfl rfl (Nat.le_of_ble_eq_true rfl) (Nat.le_of_ble_eq_true rfl) (by omega) (k_X11_within (d := d + 6)  h) ?_
  rintro _ zM2 zN3 ⟨zr1, rfl, h⟩
  refine j_if_eq (tgt := 26) dX11_pass_8 (by decide) (fun hc => ?_) (fun hc => ?_)
  · replace h := h.1 hc
    refine j_iconst (v := (-1)) dX11_pass_26 (by decide) ?_
    exact j_iret dX11_pass_27 rfl ⟨_, rfl, h⟩
  · replace h := h.2 hc
    refine j_aload_n 0 dX11_pass_11 rfl ?_
    refine j_getR (b := (1, 0, 0)) dX11_pass_12 fsRX11_28 (h0 0 (by decide)) rfl rfl ?_
    refine j_getI dX11_pass_15 fsRX11_83 (h10 0 (by decide)) rfl ?_
    refine j_iload_n 1 dX11_pass_18 rfl ?_
    refine j_iadd dX11_pass_19 ?_
    refine j_sipush (v := 719) dX11_pass_20 (by decide) ?_
    refine j_icmp_le (tgt := 28) dX11_pass_23 (by decide) (fun hc => ?_) (fun hc => ?_)
    · replace h := h.1 hc
      refine j_aload_n 0 dX11_pass_28 rfl ?_
      refine j_getR (b := (1, 0, 0)) dX11_pass_29 fsRX11_28 (h0 0 (by decide)) rfl rfl ?_
      refine j_aload_n 0 dX11_pass_32 rfl ?_
      refine j_getR (b := (1, 0, 0)) dX11_pass_33 fsRX11_28 (h0 0 (by decide)) rfl rfl ?_
      refine j_getI dX11_pass_36 fsRX11_83 (h10 0 (by decide)) rfl ?_
      refine j_iload_n 1 dX11_pass_39 rfl ?_
      refine j_iadd dX11_pass_40 ?_
      refine j_invV (As := [.inl ((zM2 (1, 0, 0) 8) + a1)]) dX11_pass_41 msRX11_150 mbX10_playTo rfl rfl (Nat.le_of_ble_eq_true rfl) (Nat.le_of_ble_eq_true rfl) (by omega) (h10 0 (by decide)) rfl rfl (k_X10_playTo (d := d + 0) h0 h10 h2 h) ?_
      rintro _ zM4 zN5 ⟨rfl, h⟩
      refine j_aload_n 0 dX11_pass_44 rfl ?_
      refine j_getR (b := (1, 0, 0)) dX11_pass_45 fsRX11_28 (h0 0 (by decide)) rfl rfl ?_
      refine j_getI dX11_pass_48 fsRX11_83 (h10 0 (by decide)) rfl ?_
      exact j_iret dX11_pass_51 rfl ⟨_, rfl, h⟩
    · replace h := h.2 hc
      refine j_iconst (v := (-1)) dX11_pass_26 (by decide) ?_
      exact j_iret dX11_pass_27 rfl ⟨_, rfl, h⟩
def w_X11_act (a1 : Int32) (a2 : Int32) (M : am_I) (N : am_N) (post : Int32 → am_I → am_N → Prop) : Prop :=
  w_X11_findsAct a1 M N (fun zr1 zM2 zN3 => ((¬ zr1 = 0 → ((a2 = 0 → post (zM2 (0, 0, 12) 5) zM2 zN3) ∧ (a2 = 1 → post (zM2 (0, 0, 12) 6) zM2 zN3) ∧ (a2 = 2 → ((¬ (zM2 (0, 0, 12) 6) = 3 → post 0 zM2 zN3) ∧ ((zM2 (0, 0, 12) 6) = 3 → post (zM2 (0, 0, 12) 7) zM2 zN3))) ∧ (¬ a2 = 0 → ¬ a2 = 1 → ¬ a2 = 2 → post (-2000000000) zM2 zN3))) ∧ (zr1 = 0 → post (-2000000000) zM2 zN3)))
set_option maxRecDepth 10000 in
theorem k_X11_act {d : Nat} {dm : List am_C} (h0 : am_d0 dm) (h10 : am_d1 dm 0) (h2 : am_d2 dm) {a1 : Int32} {a2 : Int32} {M : am_I} {N : am_N} {post : Int32 → am_I → am_N → Prop} (h : w_X11_act a1 a2 M N post) : jg (d + 7) mX11_act dm 0 [(0, .inr (.inr (0, 0, 0))), (1, .inl a1), (2, .inl a2)] [] M N (am_pi post) := by
  refine j_aload_n 0 dX11_act_0 rfl ?_
  refine j_iload_n 1 dX11_act_1 rfl ?_
  refine j_invV (As := [.inl a1]) dX11_act_2 msRX11_274 mbX11_findsAct rfl rfl (Nat.le_of_ble_eq_true rfl) (Nat.le_of_ble_eq_true rfl) (by omega) (h0 0 (by decide)) rfl rfl (k_X11_findsAct (d := d + 0) h0 h10 h2 h) ?_
  rintro _ zM2 zN3 ⟨zr1, rfl, h⟩
  refine j_if_ne (tgt := 11) dX11_act_5 (by decide) (fun hc => ?_) (fun hc => ?_)
  · replace h := h.1 hc
    refine j_iload_n 2 dX11_act_11 rfl ?_
    by_cases hs0 : a2 = 0
    · replace h := h.1 hs0
      refine j_tabK (k := 0) (tgt := 40) (off := 28) dX11_act_12 hs0 (by decide) (by decide) (by decide) (by decide) ?_
      refine j_aload_n 0 dX11_act_40 rfl ?_
      refine j_getR (b := (0, 0, 12)) dX11_act_41 fsRX11_45 (h0 0 (by decide)) rfl rfl ?_
      refine j_getI dX11_act_44 fsRX11_277 (h0 12 (by decide)) rfl ?_
      exact j_iret dX11_act_47 rfl ⟨_, rfl, h⟩
    by_cases hs1 : a2 = 1
    · replace h := h.2.1 hs1
      refine j_tabK (k := 1) (tgt := 48) (off := 36) dX11_act_12 hs1 (by decide) (by decide) (by decide) (by decide) ?_
      refine j_aload_n 0 dX11_act_48 rfl ?_
      refine j_getR (b := (0, 0, 12)) dX11_act_49 fsRX11_45 (h0 0 (by decide)) rfl rfl ?_
      refine j_getI dX11_act_52 fsRX11_280 (h0 12 (by decide)) rfl ?_
      exact j_iret dX11_act_55 rfl ⟨_, rfl, h⟩
    by_cases hs2 : a2 = 2
    · replace h := h.2.2.1 hs2
      refine j_tabK (k := 2) (tgt := 56) (off := 44) dX11_act_12 hs2 (by decide) (by decide) (by decide) (by decide) ?_
      refine j_aload_n 0 dX11_act_56 rfl ?_
      refine j_getR (b := (0, 0, 12)) dX11_act_57 fsRX11_45 (h0 0 (by decide)) rfl rfl ?_
      refine j_getI dX11_act_60 fsRX11_280 (h0 12 (by decide)) rfl ?_
      refine j_iconst (v := 3) dX11_act_63 (by decide) ?_
      refine j_icmp_ne (tgt := 77) dX11_act_64 (by decide) (fun hc => ?_) (fun hc => ?_)
      · replace h := h.1 hc
        refine j_iconst (v := 0) dX11_act_77 (by decide) ?_
        exact j_iret dX11_act_78 rfl ⟨_, rfl, h⟩
      · replace h := h.2 hc
        refine j_aload_n 0 dX11_act_67 rfl ?_
        refine j_getR (b := (0, 0, 12)) dX11_act_68 fsRX11_45 (h0 0 (by decide)) rfl rfl ?_
        refine j_getI dX11_act_71 fsRX11_283 (h0 12 (by decide)) rfl ?_
        refine j_goto (tgt := 78) dX11_act_74 (by decide) ?_
        exact j_iret dX11_act_78 rfl ⟨_, rfl, h⟩
    replace h := h.2.2.2 hs0 hs1 hs2
    refine j_tableOut (tgt := 79) dX11_act_12 (am_sw0 (n := 2) (fun k hk => match k, hk with | 0, _ => hs0 | 1, _ => hs1 | 2, _ => hs2 | k + 3, hk => absurd hk (by omega))) (by decide) ?_
    refine j_ldc (v := (-2000000000)) dX11_act_79 cw_1053 ?_
    exact j_iret dX11_act_81 rfl ⟨_, rfl, h⟩
  · replace h := h.2 hc
    refine j_ldc (v := (-2000000000)) dX11_act_8 cw_1053 ?_
    exact j_iret dX11_act_10 rfl ⟨_, rfl, h⟩
def w_X11_plan (a1 : Int32) (M : am_I) (N : am_N) (post : Int32 → am_I → am_N → Prop) : Prop :=
  w_X11_findsAct a1 M N (fun zr1 zM2 zN3 => ((¬ zr1 = 0 → (((zM2 (0, 0, 12) 6) = 0 → w_X11_addWork 1 a1 0 zM2 zN3 (fun zr4 zM5 zN6 => post zr4 zM5 zN6)) ∧ ((zM2 (0, 0, 12) 6) = 1 → w_X11_addWork 0 a1 0 zM2 zN3 (fun zr7 zM8 zN9 => post zr7 zM8 zN9)) ∧ ((zM2 (0, 0, 12) 6) = 2 → post (-1) zM2 zN3) ∧ ((zM2 (0, 0, 12) 6) = 3 → w_J9_min_7cf53 999 (zM2 (0, 0, 12) 7) zM2 zN3 (fun zr10 zM11 zN12 => w_J9_max_7cf53 1 zr10 zM11 zN12 (fun zr13 zM14 zN15 => w_X11_addWork 2 a1 zr13 zM14 zN15 (fun zr16 zM17 zN18 => post zr16 zM17 zN18)))) ∧ (¬ (zM2 (0, 0, 12) 6) = 0 → ¬ (zM2 (0, 0, 12) 6) = 1 → ¬ (zM2 (0, 0, 12) 6) = 2 → ¬ (zM2 (0, 0, 12) 6) = 3 → post (-1) zM2 zN3))) ∧ (zr1 = 0 → post (-1) zM2 zN3)))
set_option maxRecDepth 10000 in
theorem k_X11_plan {d : Nat} {dm : List am_C} (h0 : am_d0 dm) (h10 : am_d1 dm 0) (h2 : am_d2 dm) {a1 : Int32} {M : am_I} {N : am_N} {post : Int32 → am_I → am_N → Prop} (h : w_X11_plan a1 M N post) : jg (d + 8) mX11_plan dm 0 [(0, .inr (.inr (0, 0, 0))), (1, .inl a1)] [] M N (am_pi post) := by
  refine j_aload_n 0 dX11_plan_0 rfl ?_
  refine j_iload_n 1 dX11_plan_1 rfl ?_
  refine j_invV (As := [.inl a1]) dX11_plan_2 msRX11_274 mbX11_findsAct rfl rfl (Nat.le_of_ble_eq_true rfl) (Nat.le_of_ble_eq_true rfl) (by omega) (h0 0 (by decide)) rfl rfl (k_X11_findsAct (d := d + 1) h0 h10 h2 h) ?_
  rintro _ zM2 zN3 ⟨zr1, rfl, h⟩
  refine j_if_ne (tgt := 10) dX11_plan_5 (by decide) (fun hc => ?_) (fun hc => ?_)
  · replace h := h.1 hc
    refine j_aload_n 0 dX11_plan_10 rfl ?_
    refine j_getR (b := (0, 0, 12)) dX11_plan_11 fsRX11_45 (h0 0 (by decide)) rfl rfl ?_
    refine j_getI dX11_plan_14 fsRX11_280 (h0 12 (by decide)) rfl ?_
    by_cases hs0 : (zM2 (0, 0, 12) 6) = 0
    · replace h := h.1 hs0
      refine j_tabK (k := 0) (tgt := 48) (off := 31) dX11_plan_17 hs0 (by decide) (by decide) (by decide) (by decide) ?_
      refine j_aload_n 0 dX11_plan_48 rfl ?_
      refine j_iconst (v := 1) dX11_plan_49 (by decide) ?_
      refine j_iload_n 1 dX11_plan_50 rfl ?_
      refine j_iconst (v := 0) dX11_plan_51 (by decide) ?_
      refine j_invV (As := [.inl 1, .inl a1, .inl 0]) dX11_plan_52 msRX11_119 mbX11_addWork rfl rfl (Nat.le_of_ble_eq_true rfl) (Nat.le_of_ble_eq_true rfl) (by omega) (h0 0 (by decide)) rfl rfl (k_X11_addWork (d := d + 0) h0 h10 h2 h) ?_
      rintro _ zM5 zN6 ⟨zr4, rfl, h⟩
      exact j_iret dX11_plan_55 rfl ⟨_, rfl, h⟩
    by_cases hs1 : (zM2 (0, 0, 12) 6) = 1
    · replace h := h.2.1 hs1
      refine j_tabK (k := 1) (tgt := 56) (off := 39) dX11_plan_17 hs1 (by decide) (by decide) (by decide) (by decide) ?_
      refine j_aload_n 0 dX11_plan_56 rfl ?_
      refine j_iconst (v := 0) dX11_plan_57 (by decide) ?_
      refine j_iload_n 1 dX11_plan_58 rfl ?_
      refine j_iconst (v := 0) dX11_plan_59 (by decide) ?_
      refine j_invV (As := [.inl 0, .inl a1, .inl 0]) dX11_plan_60 msRX11_119 mbX11_addWork rfl rfl (Nat.le_of_ble_eq_true rfl) (Nat.le_of_ble_eq_true rfl) (by omega) (h0 0 (by decide)) rfl rfl (k_X11_addWork (d := d + 0) h0 h10 h2 h) ?_
      rintro _ zM8 zN9 ⟨zr7, rfl, h⟩
      exact j_iret dX11_plan_63 rfl ⟨_, rfl, h⟩
    by_cases hs2 : (zM2 (0, 0, 12) 6) = 2
    · replace h := h.2.2.1 hs2
      refine j_tabK (k := 2) (tgt := 88) (off := 71) dX11_plan_17 hs2 (by decide) (by decide) (by decide) (by decide) ?_
      refine j_iconst (v := (-1)) dX11_plan_88 (by decide) ?_
      exact j_iret dX11_plan_89 rfl ⟨_, rfl, h⟩
    by_cases hs3 : (zM2 (0, 0, 12) 6) = 3
    · replace h := h.2.2.2.1 hs3
      refine j_tabK (k := 3) (tgt := 64) (off := 47) dX11_plan_17 hs3 (by decide) (by decide) (by decide) (by decide) ?_
      refine j_aload_n 0 dX11_plan_64 rfl ?_
      refine j_iconst (v := 2) dX11_plan_65 (by decide) ?_
      refine j_iload_n 1 dX11_plan_66 rfl ?_
      refine j_iconst (v := 1) dX11_plan_67 (by decide) ?_
      refine j_sipush (v := 999) dX11_plan_68 (by decide) ?_
      refine j_aload_n 0 dX11_plan_71 rfl ?_
      refine j_getR (b := (0, 0, 12)) dX11_plan_72 fsRX11_45 (h0 0 (by decide)) rfl rfl ?_
      refine j_getI dX11_plan_75 fsRX11_283 (h0 12 (by decide)) rfl ?_
      refine j_invS (As := [.inl 999, .inl (zM2 (0, 0, 12) 7)]) dX11_plan_78 msRX11_286 mbJ9_min_7cf53 rfl rfl (Nat.le_of_ble_eq_true rfl) (Nat.le_of_ble_eq_true rfl) (by omega) (k_J9_min_7cf53 (d := d + 6)  h) ?_
      rintro _ zM11 zN12 ⟨zr10, rfl, h⟩
      refine j_invS (As := [.inl 1, .inl zr10]) dX11_plan_81 msRX11_291 mbJ9_max_7cf53 rfl rfl (Nat.le_of_ble_eq_true rfl) (Nat.le_of_ble_eq_true rfl) (by omega) (k_J9_max_7cf53 (d := d + 6)  h) ?_
      rintro _ zM14 zN15 ⟨zr13, rfl, h⟩
      refine j_invV (As := [.inl 2, .inl a1, .inl zr13]) dX11_plan_84 msRX11_119 mbX11_addWork rfl rfl (Nat.le_of_ble_eq_true rfl) (Nat.le_of_ble_eq_true rfl) (by omega) (h0 0 (by decide)) rfl rfl (k_X11_addWork (d := d + 0) h0 h10 h2 h) ?_
      rintro _ zM17 zN18 ⟨zr16, rfl, h⟩
      exact j_iret dX11_plan_87 rfl ⟨_, rfl, h⟩
    replace h := h.2.2.2.2 hs0 hs1 hs2 hs3
    refine j_tableOut (tgt := 88) dX11_plan_17 (am_sw0 (n := 3) (fun k hk => match k, hk with | 0, _ => hs0 | 1, _ => hs1 | 2, _ => hs2 | 3, _ => hs3 | k + 4, hk => absurd hk (by omega))) (by decide) ?_
    refine j_iconst (v := (-1)) dX11_plan_88 (by decide) ?_
    exact j_iret dX11_plan_89 rfl ⟨_, rfl, h⟩
  · replace h := h.2 hc
    refine j_iconst (v := (-1)) dX11_plan_8 (by decide) ?_
    exact j_iret dX11_plan_9 rfl ⟨_, rfl, h⟩
def w_X11_again_p50 (post : Int32 → am_I → am_N → Prop) (l3 : Int32) (l4 : Int32) (M : am_I) (N : am_N) : Prop :=
  w_X10_playTo 1 (M (1, 0, 0) 8) M N (fun zM1 zN2 => w_X10_factOfCell 1 l3 l4 zM1 zN2 (fun zr3 zM4 zN5 => post zr3 zM4 zN5))
set_option maxRecDepth 10000 in
theorem k_X11_again_p50 {d : Nat} {dm : List am_C} (h0 : am_d0 dm) (h10 : am_d1 dm 0) (h11 : am_d1 dm 1) (h2 : am_d2 dm) {post : Int32 → am_I → am_N → Prop} (l3 : Int32) (l4 : Int32) (M : am_I) (N : am_N) (h : w_X11_again_p50 post l3 l4 M N) : jg (d + 8) mX11_again dm 50 [(0, .inr (.inr (0, 0, 0))), (3, .inl l3), (4, .inl l4)] [] M N (am_pi post) := by
  refine j_aload_n 0 dX11_again_50 rfl ?_
  refine j_getR (b := (1, 1, 0)) dX11_again_51 fsRX11_32 (h0 0 (by decide)) rfl rfl ?_
  refine j_aload_n 0 dX11_again_54 rfl ?_
  refine j_getR (b := (1, 0, 0)) dX11_again_55 fsRX11_28 (h0 0 (by decide)) rfl rfl ?_
  refine j_getI dX11_again_58 fsRX11_83 (h10 0 (by decide)) rfl ?_
  refine j_invV (As := [.inl (M (1, 0, 0) 8)]) dX11_again_61 msRX11_150 mbX10_playTo rfl rfl (Nat.le_of_ble_eq_true rfl) (Nat.le_of_ble_eq_true rfl) (by omega) (h11 0 (by decide)) rfl rfl (k_X10_playTo (d := d + 0) h0 h11 h2 h) ?_
  rintro _ zM1 zN2 ⟨rfl, h⟩
  refine j_aload_n 0 dX11_again_64 rfl ?_
  refine j_getR (b := (1, 1, 0)) dX11_again_65 fsRX11_32 (h0 0 (by decide)) rfl rfl ?_
  refine j_iload_n 1 dX11_again_68 rfl ?_
  refine j_iload 2 dX11_again_69 rfl ?_
  refine j_invV (As := [.inl l3, .inl l4]) dX11_again_71 msRX11_154 mbX10_factOfCell rfl rfl (Nat.le_of_ble_eq_true rfl) (Nat.le_of_ble_eq_true rfl) (by omega) (h11 0 (by decide)) rfl rfl (k_X10_factOfCell (d := d + 3) h0 h11 h2 h) ?_
  rintro _ zM4 zN5 ⟨zr3, rfl, h⟩
  exact j_iret dX11_again_74 rfl ⟨_, rfl, h⟩
def w_X11_again (a1 : Int32) (a2 : Int32) (a3 : Int32) (a4 : Int32) (M : am_I) (N : am_N) (post : Int32 → am_I → am_N → Prop) : Prop :=
  w_X11_canLeaveOut a1 a2 M N (fun zr1 zM2 zN3 => ((zr1 = 0 → post (-1) zM2 zN3) ∧ (¬ zr1 = 0 → w_X11_isCell a3 zM2 zN3 (fun zr4 zM5 zN6 => ((zr4 = 0 → post (-1) zM5 zN6) ∧ (¬ zr4 = 0 → w_X11_within a4 0 10 zM5 zN6 (fun zr7 zM8 zN9 => ((¬ zr7 = 0 → w_X10_leavesOut 1 a1 a2 zM8 zN9 (fun zr10 zM11 zN12 => ((¬ zr10 = 0 → w_X11_again_p50 post a3 a4 zM11 zN12) ∧ (zr10 = 0 → w_X10_begin 1 a1 a2 zM11 zN12 (fun zM13 zN14 => w_X11_again_p50 post a3 a4 zM13 zN14))))) ∧ (zr7 = 0 → post (-1) zM8 zN9)))))))))
set_option maxRecDepth 10000 in
theorem k_X11_again {d : Nat} {dm : List am_C} (h0 : am_d0 dm) (h10 : am_d1 dm 0) (h11 : am_d1 dm 1) (h2 : am_d2 dm) {a1 : Int32} {a2 : Int32} {a3 : Int32} {a4 : Int32} {M : am_I} {N : am_N} {post : Int32 → am_I → am_N → Prop} (h : w_X11_again a1 a2 a3 a4 M N post) : jg (d + 8) mX11_again dm 0 [(0, .inr (.inr (0, 0, 0))), (1, .inl a1), (2, .inl a2), (3, .inl a3), (4, .inl a4)] [] M N (am_pi post) := by
  refine j_aload_n 0 dX11_again_0 rfl ?_
  refine j_iload_n 1 dX11_again_1 rfl ?_
  refine j_iload_n 2 dX11_again_2 rfl ?_
  refine j_invV (As := [.inl a1, .inl a2]) dX11_again_3 msRX11_294 mbX11_canLeaveOut rfl rfl (Nat.le_of_ble_eq_true rfl) (Nat.le_of_ble_eq_true rfl) (by omega) (h0 0 (by decide)) rfl rfl (k_X11_canLeaveOut (d := d + 5) h0 h2 h) ?_
  rintro _ zM2 zN3 ⟨zr1, rfl, h⟩
  refine j_if_eq (tgt := 27) dX11_again_6 (by decide) (fun hc => ?_) (fun hc => ?_)
  · replace h := h.1 hc
    refine j_iconst (v := (-1)) dX11_again_27 (by decide) ?_
    exact j_iret dX11_again_28 rfl ⟨_, rfl, h⟩
  · replace h := h.2 hc
    refine j_iload_n 3 dX11_again_9 rfl ?_
    refine j_invS (As := [.inl a3]) dX11_again_10 msRX11_67 mbX11_isCell rfl rfl (Nat.le_of_ble_eq_true rfl) (Nat.le_of_ble_eq_true rfl) (by omega) (k_X11_isCell (d := d + 6)  h) ?_
    rintro _ zM5 zN6 ⟨zr4, rfl, h⟩
    refine j_if_eq (tgt := 27) dX11_again_13 (by decide) (fun hc => ?_) (fun hc => ?_)
    · replace h := h.1 hc
      refine j_iconst (v := (-1)) dX11_again_27 (by decide) ?_
      exact j_iret dX11_again_28 rfl ⟨_, rfl, h⟩
    · replace h := h.2 hc
      refine j_iload 4 dX11_again_16 rfl ?_
      refine j_iconst (v := 0) dX11_again_18 (by decide) ?_
      refine j_bipush (v := 10) dX11_again_19 (by decide) ?_
      refine j_invS (As := [.inl a4, .inl 0, .inl 10]) dX11_again_21 msRX11_71 mbX11_within rfl rfl (Nat.le_of_ble_eq_true rfl) (Nat.le_of_ble_eq_true rfl) (by omega) (k_X11_within (d := d + 6)  h) ?_
      rintro _ zM8 zN9 ⟨zr7, rfl, h⟩
      refine j_if_ne (tgt := 29) dX11_again_24 (by decide) (fun hc => ?_) (fun hc => ?_)
      · replace h := h.1 hc
        refine j_aload_n 0 dX11_again_29 rfl ?_
        refine j_getR (b := (1, 1, 0)) dX11_again_30 fsRX11_32 (h0 0 (by decide)) rfl rfl ?_
        refine j_iload_n 1 dX11_again_33 rfl ?_
        refine j_iload_n 2 dX11_again_34 rfl ?_
        refine j_invV (As := [.inl a1, .inl a2]) dX11_again_35 msRX11_297 mbX10_leavesOut rfl rfl (Nat.le_of_ble_eq_true rfl) (Nat.le_of_ble_eq_true rfl) (by omega) (h11 0 (by decide)) rfl rfl (k_X10_leavesOut (d := d + 6) h11 h) ?_
        rintro _ zM11 zN12 ⟨zr10, rfl, h⟩
        refine j_if_ne (tgt := 50) dX11_again_38 (by decide) (fun hc => ?_) (fun hc => ?_)
        · replace h := h.1 hc
          refine j_sub [0, 3, 4] rfl ?_
          exact k_X11_again_p50 h0 h10 h11 h2 _ _ _ _ h
        · replace h := h.2 hc
          refine j_aload_n 0 dX11_again_41 rfl ?_
          refine j_getR (b := (1, 1, 0)) dX11_again_42 fsRX11_32 (h0 0 (by decide)) rfl rfl ?_
          refine j_iload_n 1 dX11_again_45 rfl ?_
          refine j_iload_n 2 dX11_again_46 rfl ?_
          refine j_invV (As := [.inl a1, .inl a2]) dX11_again_47 msRX11_300 mbX10_begin rfl rfl (Nat.le_of_ble_eq_true rfl) (Nat.le_of_ble_eq_true rfl) (by omega) (h11 0 (by decide)) rfl rfl (k_X10_begin (d := d + 4) h11 h) ?_
          rintro _ zM13 zN14 ⟨rfl, h⟩
          refine j_sub [0, 3, 4] rfl ?_
          exact k_X11_again_p50 h0 h10 h11 h2 _ _ _ _ h
      · replace h := h.2 hc
        refine j_iconst (v := (-1)) dX11_again_27 (by decide) ?_
        exact j_iret dX11_again_28 rfl ⟨_, rfl, h⟩
def w_X11_rules (a1 : Int32) (M : am_I) (N : am_N) (post : Int32 → am_I → am_N → Prop) : Prop :=
  ((a1 < 0 → post (-2) M N) ∧ (¬ a1 < 0 → ((a1 ≤ (M (0, 0, 7) 4) → (((M (0, 0, 0) 8) < 8 → w_X7_read a1 M N (fun zr1 zM2 zN3 => ((((am_u zM2 (0, 0, 0) 9 zr1) (0, 0, 0) 9) = (-1) → w_X3_takeOver ((am_u zM2 (0, 0, 0) 9 zr1) (0, 0, 7) 7) ((am_u zM2 (0, 0, 0) 9 zr1) (0, 0, 7) 8) (am_u zM2 (0, 0, 0) 9 zr1) zN3 (fun zM4 zN5 => post (((am_u zM4 (0, 0, 0) 8 ((zM4 (0, 0, 0) 8) + 1)) (0, 0, 0) 8) - 1) (am_u zM4 (0, 0, 0) 8 ((zM4 (0, 0, 0) 8) + 1)) zN5)) ∧ (¬ ((am_u zM2 (0, 0, 0) 9 zr1) (0, 0, 0) 9) = (-1) → post (-1) (am_u zM2 (0, 0, 0) 9 zr1) zN3)))) ∧ (¬ (M (0, 0, 0) 8) < 8 → post (-3) M N))) ∧ (¬ a1 ≤ (M (0, 0, 7) 4) → post (-2) M N))))
set_option maxRecDepth 10000 in
theorem k_X11_rules {d : Nat} {dm : List am_C} (h0 : am_d0 dm) {a1 : Int32} {M : am_I} {N : am_N} {post : Int32 → am_I → am_N → Prop} (h : w_X11_rules a1 M N post) : jg (d + 45) mX11_rules dm 0 [(0, .inr (.inr (0, 0, 0))), (1, .inl a1)] [] M N (am_pi post) := by
  refine j_iload_n 1 dX11_rules_0 rfl ?_
  refine j_if_lt (tgt := 15) dX11_rules_1 (by decide) (fun hc => ?_) (fun hc => ?_)
  · replace h := h.1 hc
    refine j_bipush (v := (-2)) dX11_rules_15 (by decide) ?_
    exact j_iret dX11_rules_17 rfl ⟨_, rfl, h⟩
  · replace h := h.2 hc
    refine j_iload_n 1 dX11_rules_4 rfl ?_
    refine j_aload_n 0 dX11_rules_5 rfl ?_
    refine j_getR (b := (0, 0, 7)) dX11_rules_6 fsRX11_38 (h0 0 (by decide)) rfl rfl ?_
    refine j_getI dX11_rules_9 fsRX11_255 (h0 7 (by decide)) rfl ?_
    refine j_icmp_le (tgt := 18) dX11_rules_12 (by decide) (fun hc => ?_) (fun hc => ?_)
    · replace h := h.1 hc
      refine j_aload_n 0 dX11_rules_18 rfl ?_
      refine j_getI dX11_rules_19 fsRX11_60 (h0 0 (by decide)) rfl ?_
      refine j_bipush (v := 8) dX11_rules_22 (by decide) ?_
      refine j_icmp_lt (tgt := 30) dX11_rules_24 (by decide) (fun hc => ?_) (fun hc => ?_)
      · replace h := h.1 hc
        refine j_aload_n 0 dX11_rules_30 rfl ?_
        refine j_aload_n 0 dX11_rules_31 rfl ?_
        refine j_getR (b := (0, 0, 7)) dX11_rules_32 fsRX11_38 (h0 0 (by decide)) rfl rfl ?_
        refine j_iload_n 1 dX11_rules_35 rfl ?_
        refine j_invV (As := [.inl a1]) dX11_rules_36 msRX11_258 mbX7_read rfl rfl (Nat.le_of_ble_eq_true rfl) (Nat.le_of_ble_eq_true rfl) (by omega) (h0 7 (by decide)) rfl rfl (k_X7_read (d := d + 0) h0 h) ?_
        rintro _ zM2 zN3 ⟨zr1, rfl, h⟩
        refine j_putI dX11_rules_39 fwRX11_64 (h0 0 (by decide)) rfl ?_
        refine j_aload_n 0 dX11_rules_42 rfl ?_
        refine j_getI dX11_rules_43 fsRX11_64 (h0 0 (by decide)) rfl ?_
        refine j_iconst (v := (-1)) dX11_rules_46 (by decide) ?_
        refine j_icmp_eq (tgt := 52) dX11_rules_47 (by decide) (fun hc => ?_) (fun hc => ?_)
        · replace h := h.1 hc
          refine j_aload_n 0 dX11_rules_52 rfl ?_
          refine j_getR (b := (0, 0, 12)) dX11_rules_53 fsRX11_45 (h0 0 (by decide)) rfl rfl ?_
          refine j_aload_n 0 dX11_rules_56 rfl ?_
          refine j_getR (b := (0, 0, 7)) dX11_rules_57 fsRX11_38 (h0 0 (by decide)) rfl rfl ?_
          refine j_getR (b := (0, 0, 11)) dX11_rules_60 fsRX11_261 (h0 7 (by decide)) rfl rfl ?_
          refine j_aload_n 0 dX11_rules_63 rfl ?_
          refine j_getR (b := (0, 0, 7)) dX11_rules_64 fsRX11_38 (h0 0 (by decide)) rfl rfl ?_
          refine j_getI dX11_rules_67 fsRX11_264 (h0 7 (by decide)) rfl ?_
          refine j_aload_n 0 dX11_rules_70 rfl ?_
          refine j_getR (b := (0, 0, 7)) dX11_rules_71 fsRX11_38 (h0 0 (by decide)) rfl rfl ?_
          refine j_getI dX11_rules_74 fsRX11_267 (h0 7 (by decide)) rfl ?_
          refine j_invV (As := [.inr (.inr (0, 0, 11)), .inl ((am_u zM2 (0, 0, 0) 9 zr1) (0, 0, 7) 7), .inl ((am_u zM2 (0, 0, 0) 9 zr1) (0, 0, 7) 8)]) dX11_rules_77 msRX11_270 mbX3_takeOver rfl rfl (Nat.le_of_ble_eq_true rfl) (Nat.le_of_ble_eq_true rfl) (by omega) (h0 12 (by decide)) rfl rfl (k_X3_takeOver (d := d + 42) h0 h) ?_
          rintro _ zM4 zN5 ⟨rfl, h⟩
          refine j_aload_n 0 dX11_rules_80 rfl ?_
          refine j_dup dX11_rules_81 rfl ?_
          refine j_getI dX11_rules_82 fsRX11_60 (h0 0 (by decide)) rfl ?_
          refine j_iconst (v := 1) dX11_rules_85 (by decide) ?_
          refine j_iadd dX11_rules_86 ?_
          refine j_putI dX11_rules_87 fwRX11_60 (h0 0 (by decide)) rfl ?_
          refine j_aload_n 0 dX11_rules_90 rfl ?_
          refine j_getI dX11_rules_91 fsRX11_60 (h0 0 (by decide)) rfl ?_
          refine j_iconst (v := 1) dX11_rules_94 (by decide) ?_
          refine j_isub dX11_rules_95 ?_
          exact j_iret dX11_rules_96 rfl ⟨_, rfl, h⟩
        · replace h := h.2 hc
          refine j_iconst (v := (-1)) dX11_rules_50 (by decide) ?_
          exact j_iret dX11_rules_51 rfl ⟨_, rfl, h⟩
      · replace h := h.2 hc
        refine j_bipush (v := (-3)) dX11_rules_27 (by decide) ?_
        exact j_iret dX11_rules_29 rfl ⟨_, rfl, h⟩
    · replace h := h.2 hc
      refine j_bipush (v := (-2)) dX11_rules_15 (by decide) ?_
      exact j_iret dX11_rules_17 rfl ⟨_, rfl, h⟩
