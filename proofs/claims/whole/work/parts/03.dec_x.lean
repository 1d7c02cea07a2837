theorem dX0_init_0 : decode cX0_init 0 = .ok (.aload_n 0, 1) := by decide +kernel
theorem dX0_init_1 : decode cX0_init 1 = .ok (.invokespecial 3, 3) := by decide +kernel
theorem dX0_init_4 : decode cX0_init 4 = .ok (.aload_n 0, 1) := by decide +kernel
theorem dX0_init_5 : decode cX0_init 5 = .ok (.aload_n 1, 1) := by decide +kernel
theorem dX0_init_6 : decode cX0_init 6 = .ok (.putfield 9, 3) := by decide +kernel
theorem dX0_init_9 : decode cX0_init 9 = .ok (.aload_n 0, 1) := by decide +kernel
theorem dX0_init_10 : decode cX0_init 10 = .ok (.sipush 4096, 3) := by decide +kernel
theorem dX0_init_13 : decode cX0_init 13 = .ok (.newarray .int, 2) := by decide +kernel
theorem dX0_init_15 : decode cX0_init 15 = .ok (.putfield 15, 3) := by decide +kernel
theorem dX0_init_18 : decode cX0_init 18 = .ok (.aload_n 0, 1) := by decide +kernel
theorem dX0_init_19 : decode cX0_init 19 = .ok (.sipush 4096, 3) := by decide +kernel
theorem dX0_init_22 : decode cX0_init 22 = .ok (.newarray .int, 2) := by decide +kernel
theorem dX0_init_24 : decode cX0_init 24 = .ok (.putfield 19, 3) := by decide +kernel
theorem dX0_init_27 : decode cX0_init 27 = .ok (.aload_n 0, 1) := by decide +kernel
theorem dX0_init_28 : decode cX0_init 28 = .ok (.bipush 64, 2) := by decide +kernel
theorem dX0_init_30 : decode cX0_init 30 = .ok (.newarray .boolean, 2) := by decide +kernel
theorem dX0_init_32 : decode cX0_init 32 = .ok (.putfield 22, 3) := by decide +kernel
theorem dX0_init_35 : decode cX0_init 35 = .ok (.aload_n 0, 1) := by decide +kernel
theorem dX0_init_36 : decode cX0_init 36 = .ok (.bipush 64, 2) := by decide +kernel
theorem dX0_init_38 : decode cX0_init 38 = .ok (.newarray .boolean, 2) := by decide +kernel
theorem dX0_init_40 : decode cX0_init 40 = .ok (.putfield 26, 3) := by decide +kernel
theorem dX0_init_43 : decode cX0_init 43 = .ok (.aload_n 0, 1) := by decide +kernel
theorem dX0_init_44 : decode cX0_init 44 = .ok (.bipush 64, 2) := by decide +kernel
theorem dX0_init_46 : decode cX0_init 46 = .ok (.newarray .int, 2) := by decide +kernel
theorem dX0_init_48 : decode cX0_init 48 = .ok (.putfield 29, 3) := by decide +kernel
theorem dX0_init_51 : decode cX0_init 51 = .ok (.return_, 1) := by decide +kernel
theorem dX0_startOver_0 : decode cX0_startOver 0 = .ok (.aload_n 0, 1) := by decide +kernel
theorem dX0_startOver_1 : decode cX0_startOver 1 = .ok (.iconst 0, 1) := by decide +kernel
theorem dX0_startOver_2 : decode cX0_startOver 2 = .ok (.putfield 32, 3) := by decide +kernel
theorem dX0_startOver_5 : decode cX0_startOver 5 = .ok (.aload_n 0, 1) := by decide +kernel
theorem dX0_startOver_6 : decode cX0_startOver 6 = .ok (.iconst 0, 1) := by decide +kernel
theorem dX0_startOver_7 : decode cX0_startOver 7 = .ok (.putfield 36, 3) := by decide +kernel
theorem dX0_startOver_10 : decode cX0_startOver 10 = .ok (.aload_n 0, 1) := by decide +kernel
theorem dX0_startOver_11 : decode cX0_startOver 11 = .ok (.getfield 29, 3) := by decide +kernel
theorem dX0_startOver_14 : decode cX0_startOver 14 = .ok (.iconst 0, 1) := by decide +kernel
theorem dX0_startOver_15 : decode cX0_startOver 15 = .ok (.invokestatic 39, 3) := by decide +kernel
theorem dX0_startOver_18 : decode cX0_startOver 18 = .ok (.aload_n 0, 1) := by decide +kernel
theorem dX0_startOver_19 : decode cX0_startOver 19 = .ok (.iconst 0, 1) := by decide +kernel
theorem dX0_startOver_20 : decode cX0_startOver 20 = .ok (.putfield 45, 3) := by decide +kernel
theorem dX0_startOver_23 : decode cX0_startOver 23 = .ok (.aload_n 0, 1) := by decide +kernel
theorem dX0_startOver_24 : decode cX0_startOver 24 = .ok (.iconst 0, 1) := by decide +kernel
theorem dX0_startOver_25 : decode cX0_startOver 25 = .ok (.putfield 48, 3) := by decide +kernel
theorem dX0_startOver_28 : decode cX0_startOver 28 = .ok (.aload_n 0, 1) := by decide +kernel
theorem dX0_startOver_29 : decode cX0_startOver 29 = .ok (.iconst 0, 1) := by decide +kernel
theorem dX0_startOver_30 : decode cX0_startOver 30 = .ok (.putfield 51, 3) := by decide +kernel
theorem dX0_startOver_33 : decode cX0_startOver 33 = .ok (.aload_n 0, 1) := by decide +kernel
theorem dX0_startOver_34 : decode cX0_startOver 34 = .ok (.iconst 0, 1) := by decide +kernel
theorem dX0_startOver_35 : decode cX0_startOver 35 = .ok (.putfield 54, 3) := by decide +kernel
theorem dX0_startOver_38 : decode cX0_startOver 38 = .ok (.aload_n 0, 1) := by decide +kernel
theorem dX0_startOver_39 : decode cX0_startOver 39 = .ok (.iconst 0, 1) := by decide +kernel
theorem dX0_startOver_40 : decode cX0_startOver 40 = .ok (.putfield 57, 3) := by decide +kernel
theorem dX0_startOver_43 : decode cX0_startOver 43 = .ok (.return_, 1) := by decide +kernel
theorem dX0_done_0 : decode cX0_done 0 = .ok (.aload_n 0, 1) := by decide +kernel
theorem dX0_done_1 : decode cX0_done 1 = .ok (.getfield 32, 3) := by decide +kernel
theorem dX0_done_4 : decode cX0_done 4 = .ok (.ireturn, 1) := by decide +kernel
theorem dX0_givenUp_0 : decode cX0_givenUp 0 = .ok (.aload_n 0, 1) := by decide +kernel
theorem dX0_givenUp_1 : decode cX0_givenUp 1 = .ok (.getfield 36, 3) := by decide +kernel
theorem dX0_givenUp_4 : decode cX0_givenUp 4 = .ok (.ireturn, 1) := by decide +kernel
theorem dX0_hitOf_0 : decode cX0_hitOf 0 = .ok (.aload_n 0, 1) := by decide +kernel
theorem dX0_hitOf_1 : decode cX0_hitOf 1 = .ok (.getfield 29, 3) := by decide +kernel
theorem dX0_hitOf_4 : decode cX0_hitOf 4 = .ok (.iload_n 1, 1) := by decide +kernel
theorem dX0_hitOf_5 : decode cX0_hitOf 5 = .ok (.iaload, 1) := by decide +kernel
theorem dX0_hitOf_6 : decode cX0_hitOf 6 = .ok (.ireturn, 1) := by decide +kernel
theorem dX0_hitPages_0 : decode cX0_hitPages 0 = .ok (.aload_n 0, 1) := by decide +kernel
theorem dX0_hitPages_1 : decode cX0_hitPages 1 = .ok (.getfield 45, 3) := by decide +kernel
theorem dX0_hitPages_4 : decode cX0_hitPages 4 = .ok (.ireturn, 1) := by decide +kernel
theorem dX0_rowObjects_0 : decode cX0_rowObjects 0 = .ok (.aload_n 0, 1) := by decide +kernel
theorem dX0_rowObjects_1 : decode cX0_rowObjects 1 = .ok (.getfield 48, 3) := by decide +kernel
theorem dX0_rowObjects_4 : decode cX0_rowObjects 4 = .ok (.ireturn, 1) := by decide +kernel
theorem dX0_movedObjects_0 : decode cX0_movedObjects 0 = .ok (.aload_n 0, 1) := by decide +kernel
theorem dX0_movedObjects_1 : decode cX0_movedObjects 1 = .ok (.getfield 51, 3) := by decide +kernel
theorem dX0_movedObjects_4 : decode cX0_movedObjects 4 = .ok (.ireturn, 1) := by decide +kernel
theorem dX0_takenPages_0 : decode cX0_takenPages 0 = .ok (.aload_n 0, 1) := by decide +kernel
theorem dX0_takenPages_1 : decode cX0_takenPages 1 = .ok (.getfield 54, 3) := by decide +kernel
theorem dX0_takenPages_4 : decode cX0_takenPages 4 = .ok (.ireturn, 1) := by decide +kernel
theorem dX0_freedPages_0 : decode cX0_freedPages 0 = .ok (.aload_n 0, 1) := by decide +kernel
theorem dX0_freedPages_1 : decode cX0_freedPages 1 = .ok (.getfield 57, 3) := by decide +kernel
theorem dX0_freedPages_4 : decode cX0_freedPages 4 = .ok (.ireturn, 1) := by decide +kernel
theorem dX0_run_0 : decode cX0_run 0 = .ok (.aload_n 0, 1) := by decide +kernel
theorem dX0_run_1 : decode cX0_run 1 = .ok (.invokevirtual 60, 3) := by decide +kernel
theorem dX0_run_4 : decode cX0_run 4 = .ok (.aload_n 0, 1) := by decide +kernel
theorem dX0_run_5 : decode cX0_run 5 = .ok (.aload_n 2, 1) := by decide +kernel
theorem dX0_run_6 : decode cX0_run 6 = .ok (.invokevirtual 63, 3) := by decide +kernel
theorem dX0_run_9 : decode cX0_run 9 = .ok (.aload_n 0, 1) := by decide +kernel
theorem dX0_run_10 : decode cX0_run 10 = .ok (.invokevirtual 67, 3) := by decide +kernel
theorem dX0_run_13 : decode cX0_run 13 = .ok (.aload_n 0, 1) := by decide +kernel
theorem dX0_run_14 : decode cX0_run 14 = .ok (.aload_n 1, 1) := by decide +kernel
theorem dX0_run_15 : decode cX0_run 15 = .ok (.invokevirtual 70, 3) := by decide +kernel
theorem dX0_run_18 : decode cX0_run 18 = .ok (.ifCond .eq 10, 3) := by decide +kernel
theorem dX0_run_21 : decode cX0_run 21 = .ok (.aload_n 0, 1) := by decide +kernel
theorem dX0_run_22 : decode cX0_run 22 = .ok (.invokevirtual 74, 3) := by decide +kernel
theorem dX0_run_25 : decode cX0_run 25 = .ok (.ifCond .ne 15, 3) := by decide +kernel
theorem dX0_run_28 : decode cX0_run 28 = .ok (.aload_n 0, 1) := by decide +kernel
theorem dX0_run_29 : decode cX0_run 29 = .ok (.dup, 1) := by decide +kernel
theorem dX0_run_30 : decode cX0_run 30 = .ok (.getfield 36, 3) := by decide +kernel
theorem dX0_run_33 : decode cX0_run 33 = .ok (.iconst 1, 1) := by decide +kernel
theorem dX0_run_34 : decode cX0_run 34 = .ok (.iadd, 1) := by decide +kernel
theorem dX0_run_35 : decode cX0_run 35 = .ok (.putfield 36, 3) := by decide +kernel
theorem dX0_run_38 : decode cX0_run 38 = .ok (.iconst 0, 1) := by decide +kernel
theorem dX0_run_39 : decode cX0_run 39 = .ok (.ireturn, 1) := by decide +kernel
theorem dX0_run_40 : decode cX0_run 40 = .ok (.aload_n 0, 1) := by decide +kernel
theorem dX0_run_41 : decode cX0_run 41 = .ok (.invokevirtual 78, 3) := by decide +kernel
theorem dX0_run_44 : decode cX0_run 44 = .ok (.aload_n 0, 1) := by decide +kernel
theorem dX0_run_45 : decode cX0_run 45 = .ok (.aload_n 1, 1) := by decide +kernel
theorem dX0_run_46 : decode cX0_run 46 = .ok (.invokevirtual 81, 3) := by decide +kernel
theorem dX0_run_49 : decode cX0_run 49 = .ok (.aload_n 0, 1) := by decide +kernel
theorem dX0_run_50 : decode cX0_run 50 = .ok (.invokevirtual 84, 3) := by decide +kernel
theorem dX0_run_53 : decode cX0_run 53 = .ok (.iconst 1, 1) := by decide +kernel
theorem dX0_run_54 : decode cX0_run 54 = .ok (.ireturn, 1) := by decide +kernel
theorem dX0_clearPlan_0 : decode cX0_clearPlan 0 = .ok (.aload_n 0, 1) := by decide +kernel
theorem dX0_clearPlan_1 : decode cX0_clearPlan 1 = .ok (.iconst 0, 1) := by decide +kernel
theorem dX0_clearPlan_2 : decode cX0_clearPlan 2 = .ok (.putfield 87, 3) := by decide +kernel
theorem dX0_clearPlan_5 : decode cX0_clearPlan 5 = .ok (.aload_n 0, 1) := by decide +kernel
theorem dX0_clearPlan_6 : decode cX0_clearPlan 6 = .ok (.getfield 19, 3) := by decide +kernel
theorem dX0_clearPlan_9 : decode cX0_clearPlan 9 = .ok (.iconst (-1), 1) := by decide +kernel
theorem dX0_clearPlan_10 : decode cX0_clearPlan 10 = .ok (.invokestatic 39, 3) := by decide +kernel
theorem dX0_clearPlan_13 : decode cX0_clearPlan 13 = .ok (.iconst 0, 1) := by decide +kernel
theorem dX0_clearPlan_14 : decode cX0_clearPlan 14 = .ok (.istore_n 1, 1) := by decide +kernel
theorem dX0_clearPlan_15 : decode cX0_clearPlan 15 = .ok (.iload_n 1, 1) := by decide +kernel
theorem dX0_clearPlan_16 : decode cX0_clearPlan 16 = .ok (.bipush 64, 2) := by decide +kernel
theorem dX0_clearPlan_18 : decode cX0_clearPlan 18 = .ok (.if_icmp .ge 23, 3) := by decide +kernel
theorem dX0_clearPlan_21 : decode cX0_clearPlan 21 = .ok (.aload_n 0, 1) := by decide +kernel
theorem dX0_clearPlan_22 : decode cX0_clearPlan 22 = .ok (.getfield 22, 3) := by decide +kernel
theorem dX0_clearPlan_25 : decode cX0_clearPlan 25 = .ok (.iload_n 1, 1) := by decide +kernel
theorem dX0_clearPlan_26 : decode cX0_clearPlan 26 = .ok (.iconst 0, 1) := by decide +kernel
theorem dX0_clearPlan_27 : decode cX0_clearPlan 27 = .ok (.bastore, 1) := by decide +kernel
theorem dX0_clearPlan_28 : decode cX0_clearPlan 28 = .ok (.aload_n 0, 1) := by decide +kernel
theorem dX0_clearPlan_29 : decode cX0_clearPlan 29 = .ok (.getfield 26, 3) := by decide +kernel
theorem dX0_clearPlan_32 : decode cX0_clearPlan 32 = .ok (.iload_n 1, 1) := by decide +kernel
theorem dX0_clearPlan_33 : decode cX0_clearPlan 33 = .ok (.iconst 0, 1) := by decide +kernel
theorem dX0_clearPlan_34 : decode cX0_clearPlan 34 = .ok (.bastore, 1) := by decide +kernel
theorem dX0_clearPlan_35 : decode cX0_clearPlan 35 = .ok (.iinc 1 1, 3) := by decide +kernel
theorem dX0_clearPlan_38 : decode cX0_clearPlan 38 = .ok (.goto (-23), 3) := by decide +kernel
theorem dX0_clearPlan_41 : decode cX0_clearPlan 41 = .ok (.aload_n 0, 1) := by decide +kernel
theorem dX0_clearPlan_42 : decode cX0_clearPlan 42 = .ok (.iconst (-1), 1) := by decide +kernel
theorem dX0_clearPlan_43 : decode cX0_clearPlan 43 = .ok (.putfield 90, 3) := by decide +kernel
theorem dX0_clearPlan_46 : decode cX0_clearPlan 46 = .ok (.aload_n 0, 1) := by decide +kernel
theorem dX0_clearPlan_47 : decode cX0_clearPlan 47 = .ok (.iconst 0, 1) := by decide +kernel
theorem dX0_clearPlan_48 : decode cX0_clearPlan 48 = .ok (.putfield 93, 3) := by decide +kernel
theorem dX0_clearPlan_51 : decode cX0_clearPlan 51 = .ok (.aload_n 0, 1) := by decide +kernel
theorem dX0_clearPlan_52 : decode cX0_clearPlan 52 = .ok (.iconst 0, 1) := by decide +kernel
theorem dX0_clearPlan_53 : decode cX0_clearPlan 53 = .ok (.putfield 96, 3) := by decide +kernel
theorem dX0_clearPlan_56 : decode cX0_clearPlan 56 = .ok (.aload_n 0, 1) := by decide +kernel
theorem dX0_clearPlan_57 : decode cX0_clearPlan 57 = .ok (.iconst 0, 1) := by decide +kernel
theorem dX0_clearPlan_58 : decode cX0_clearPlan 58 = .ok (.putfield 99, 3) := by decide +kernel
theorem dX0_clearPlan_61 : decode cX0_clearPlan 61 = .ok (.return_, 1) := by decide +kernel
theorem dX0_markHits_0 : decode cX0_markHits 0 = .ok (.iconst 0, 1) := by decide +kernel
theorem dX0_markHits_1 : decode cX0_markHits 1 = .ok (.istore_n 2, 1) := by decide +kernel
theorem dX0_markHits_2 : decode cX0_markHits 2 = .ok (.iload_n 2, 1) := by decide +kernel
theorem dX0_markHits_3 : decode cX0_markHits 3 = .ok (.aload_n 1, 1) := by decide +kernel
theorem dX0_markHits_4 : decode cX0_markHits 4 = .ok (.arraylength, 1) := by decide +kernel
theorem dX0_markHits_5 : decode cX0_markHits 5 = .ok (.if_icmp .ge 36, 3) := by decide +kernel
theorem dX0_markHits_8 : decode cX0_markHits 8 = .ok (.aload_n 0, 1) := by decide +kernel
theorem dX0_markHits_9 : decode cX0_markHits 9 = .ok (.getfield 9, 3) := by decide +kernel
theorem dX0_markHits_12 : decode cX0_markHits 12 = .ok (.aload_n 1, 1) := by decide +kernel
theorem dX0_markHits_13 : decode cX0_markHits 13 = .ok (.iload_n 2, 1) := by decide +kernel
theorem dX0_markHits_14 : decode cX0_markHits 14 = .ok (.iaload, 1) := by decide +kernel
theorem dX0_markHits_15 : decode cX0_markHits 15 = .ok (.invokevirtual 102, 3) := by decide +kernel
theorem dX0_markHits_18 : decode cX0_markHits 18 = .ok (.ifCond .eq 17, 3) := by decide +kernel
theorem dX0_markHits_21 : decode cX0_markHits 21 = .ok (.aload_n 0, 1) := by decide +kernel
theorem dX0_markHits_22 : decode cX0_markHits 22 = .ok (.aload_n 0, 1) := by decide +kernel
theorem dX0_markHits_23 : decode cX0_markHits 23 = .ok (.getfield 9, 3) := by decide +kernel
theorem dX0_markHits_26 : decode cX0_markHits 26 = .ok (.aload_n 1, 1) := by decide +kernel
theorem dX0_markHits_27 : decode cX0_markHits 27 = .ok (.iload_n 2, 1) := by decide +kernel
theorem dX0_markHits_28 : decode cX0_markHits 28 = .ok (.iaload, 1) := by decide +kernel
theorem dX0_markHits_29 : decode cX0_markHits 29 = .ok (.invokevirtual 108, 3) := by decide +kernel
theorem dX0_markHits_32 : decode cX0_markHits 32 = .ok (.invokevirtual 112, 3) := by decide +kernel
theorem dX0_markHits_35 : decode cX0_markHits 35 = .ok (.iinc 2 1, 3) := by decide +kernel
theorem dX0_markHits_38 : decode cX0_markHits 38 = .ok (.goto (-36), 3) := by decide +kernel
theorem dX0_markHits_41 : decode cX0_markHits 41 = .ok (.return_, 1) := by decide +kernel
theorem dX0_markHit_0 : decode cX0_markHit 0 = .ok (.aload_n 0, 1) := by decide +kernel
theorem dX0_markHit_1 : decode cX0_markHit 1 = .ok (.getfield 9, 3) := by decide +kernel
theorem dX0_markHit_4 : decode cX0_markHit 4 = .ok (.iload_n 1, 1) := by decide +kernel
theorem dX0_markHit_5 : decode cX0_markHit 5 = .ok (.invokevirtual 116, 3) := by decide +kernel
theorem dX0_markHit_8 : decode cX0_markHit 8 = .ok (.ifCond .eq 4, 3) := by decide +kernel
theorem dX0_markHit_11 : decode cX0_markHit 11 = .ok (.return_, 1) := by decide +kernel
theorem dX0_markHit_12 : decode cX0_markHit 12 = .ok (.aload_n 0, 1) := by decide +kernel
theorem dX0_markHit_13 : decode cX0_markHit 13 = .ok (.getfield 9, 3) := by decide +kernel
theorem dX0_markHit_16 : decode cX0_markHit 16 = .ok (.iload_n 1, 1) := by decide +kernel
theorem dX0_markHit_17 : decode cX0_markHit 17 = .ok (.invokevirtual 119, 3) := by decide +kernel
theorem dX0_markHit_20 : decode cX0_markHit 20 = .ok (.istore_n 2, 1) := by decide +kernel
theorem dX0_markHit_21 : decode cX0_markHit 21 = .ok (.aload_n 0, 1) := by decide +kernel
theorem dX0_markHit_22 : decode cX0_markHit 22 = .ok (.getfield 9, 3) := by decide +kernel
theorem dX0_markHit_25 : decode cX0_markHit 25 = .ok (.iload_n 2, 1) := by decide +kernel
theorem dX0_markHit_26 : decode cX0_markHit 26 = .ok (.invokevirtual 122, 3) := by decide +kernel
theorem dX0_markHit_29 : decode cX0_markHit 29 = .ok (.istore_n 3, 1) := by decide +kernel
theorem dX0_markHit_30 : decode cX0_markHit 30 = .ok (.iload_n 2, 1) := by decide +kernel
theorem dX0_markHit_31 : decode cX0_markHit 31 = .ok (.istore 4, 2) := by decide +kernel
theorem dX0_markHit_33 : decode cX0_markHit 33 = .ok (.iload 4, 2) := by decide +kernel
theorem dX0_markHit_35 : decode cX0_markHit 35 = .ok (.iload_n 3, 1) := by decide +kernel
theorem dX0_markHit_36 : decode cX0_markHit 36 = .ok (.if_icmp .ge 25, 3) := by decide +kernel
theorem dX0_markHit_39 : decode cX0_markHit 39 = .ok (.aload_n 0, 1) := by decide +kernel
theorem dX0_markHit_40 : decode cX0_markHit 40 = .ok (.getfield 22, 3) := by decide +kernel
theorem dX0_markHit_43 : decode cX0_markHit 43 = .ok (.iload 4, 2) := by decide +kernel
theorem dX0_markHit_45 : decode cX0_markHit 45 = .ok (.iconst 1, 1) := by decide +kernel
theorem dX0_markHit_46 : decode cX0_markHit 46 = .ok (.bastore, 1) := by decide +kernel
theorem dX0_markHit_47 : decode cX0_markHit 47 = .ok (.aload_n 0, 1) := by decide +kernel
theorem dX0_markHit_48 : decode cX0_markHit 48 = .ok (.getfield 26, 3) := by decide +kernel
theorem dX0_markHit_51 : decode cX0_markHit 51 = .ok (.iload 4, 2) := by decide +kernel
theorem dX0_markHit_53 : decode cX0_markHit 53 = .ok (.iconst 1, 1) := by decide +kernel
theorem dX0_markHit_54 : decode cX0_markHit 54 = .ok (.bastore, 1) := by decide +kernel
theorem dX0_markHit_55 : decode cX0_markHit 55 = .ok (.iinc 4 1, 3) := by decide +kernel
theorem dX0_markHit_58 : decode cX0_markHit 58 = .ok (.goto (-25), 3) := by decide +kernel
theorem dX0_markHit_61 : decode cX0_markHit 61 = .ok (.return_, 1) := by decide +kernel
theorem dX0_keepHitObjects_0 : decode cX0_keepHitObjects 0 = .ok (.iconst 0, 1) := by decide +kernel
theorem dX0_keepHitObjects_1 : decode cX0_keepHitObjects 1 = .ok (.istore_n 1, 1) := by decide +kernel
theorem dX0_keepHitObjects_2 : decode cX0_keepHitObjects 2 = .ok (.iload_n 1, 1) := by decide +kernel
theorem dX0_keepHitObjects_3 : decode cX0_keepHitObjects 3 = .ok (.aload_n 0, 1) := by decide +kernel
theorem dX0_keepHitObjects_4 : decode cX0_keepHitObjects 4 = .ok (.getfield 9, 3) := by decide +kernel
theorem dX0_keepHitObjects_7 : decode cX0_keepHitObjects 7 = .ok (.invokevirtual 125, 3) := by decide +kernel
theorem dX0_keepHitObjects_10 : decode cX0_keepHitObjects 10 = .ok (.if_icmp .ge 23, 3) := by decide +kernel
theorem dX0_keepHitObjects_13 : decode cX0_keepHitObjects 13 = .ok (.aload_n 0, 1) := by decide +kernel
theorem dX0_keepHitObjects_14 : decode cX0_keepHitObjects 14 = .ok (.getfield 22, 3) := by decide +kernel
theorem dX0_keepHitObjects_17 : decode cX0_keepHitObjects 17 = .ok (.iload_n 1, 1) := by decide +kernel
theorem dX0_keepHitObjects_18 : decode cX0_keepHitObjects 18 = .ok (.baload, 1) := by decide +kernel
theorem dX0_keepHitObjects_19 : decode cX0_keepHitObjects 19 = .ok (.ifCond .eq 8, 3) := by decide +kernel
theorem dX0_keepHitObjects_22 : decode cX0_keepHitObjects 22 = .ok (.aload_n 0, 1) := by decide +kernel
theorem dX0_keepHitObjects_23 : decode cX0_keepHitObjects 23 = .ok (.iload_n 1, 1) := by decide +kernel
theorem dX0_keepHitObjects_24 : decode cX0_keepHitObjects 24 = .ok (.invokevirtual 129, 3) := by decide +kernel
theorem dX0_keepHitObjects_27 : decode cX0_keepHitObjects 27 = .ok (.iinc 1 1, 3) := by decide +kernel
theorem dX0_keepHitObjects_30 : decode cX0_keepHitObjects 30 = .ok (.goto (-28), 3) := by decide +kernel
theorem dX0_keepHitObjects_33 : decode cX0_keepHitObjects 33 = .ok (.return_, 1) := by decide +kernel
theorem dX0_keepObjectsOf_0 : decode cX0_keepObjectsOf 0 = .ok (.iconst 0, 1) := by decide +kernel
theorem dX0_keepObjectsOf_1 : decode cX0_keepObjectsOf 1 = .ok (.istore_n 2, 1) := by decide +kernel
theorem dX0_keepObjectsOf_2 : decode cX0_keepObjectsOf 2 = .ok (.iload_n 2, 1) := by decide +kernel
theorem dX0_keepObjectsOf_3 : decode cX0_keepObjectsOf 3 = .ok (.aload_n 0, 1) := by decide +kernel
theorem dX0_keepObjectsOf_4 : decode cX0_keepObjectsOf 4 = .ok (.getfield 9, 3) := by decide +kernel
theorem dX0_keepObjectsOf_7 : decode cX0_keepObjectsOf 7 = .ok (.invokevirtual 132, 3) := by decide +kernel
theorem dX0_keepObjectsOf_10 : decode cX0_keepObjectsOf 10 = .ok (.if_icmp .ge 36, 3) := by decide +kernel
theorem dX0_keepObjectsOf_13 : decode cX0_keepObjectsOf 13 = .ok (.aload_n 0, 1) := by decide +kernel
theorem dX0_keepObjectsOf_14 : decode cX0_keepObjectsOf 14 = .ok (.getfield 9, 3) := by decide +kernel
theorem dX0_keepObjectsOf_17 : decode cX0_keepObjectsOf 17 = .ok (.iload_n 1, 1) := by decide +kernel
theorem dX0_keepObjectsOf_18 : decode cX0_keepObjectsOf 18 = .ok (.iload_n 2, 1) := by decide +kernel
theorem dX0_keepObjectsOf_19 : decode cX0_keepObjectsOf 19 = .ok (.invokevirtual 135, 3) := by decide +kernel
theorem dX0_keepObjectsOf_22 : decode cX0_keepObjectsOf 22 = .ok (.istore_n 3, 1) := by decide +kernel
theorem dX0_keepObjectsOf_23 : decode cX0_keepObjectsOf 23 = .ok (.aload_n 0, 1) := by decide +kernel
theorem dX0_keepObjectsOf_24 : decode cX0_keepObjectsOf 24 = .ok (.getfield 9, 3) := by decide +kernel
theorem dX0_keepObjectsOf_27 : decode cX0_keepObjectsOf 27 = .ok (.iload_n 3, 1) := by decide +kernel
theorem dX0_keepObjectsOf_28 : decode cX0_keepObjectsOf 28 = .ok (.invokevirtual 139, 3) := by decide +kernel
theorem dX0_keepObjectsOf_31 : decode cX0_keepObjectsOf 31 = .ok (.ifCond .eq 9, 3) := by decide +kernel
theorem dX0_keepObjectsOf_34 : decode cX0_keepObjectsOf 34 = .ok (.aload_n 0, 1) := by decide +kernel
theorem dX0_keepObjectsOf_35 : decode cX0_keepObjectsOf 35 = .ok (.iload_n 3, 1) := by decide +kernel
theorem dX0_keepObjectsOf_36 : decode cX0_keepObjectsOf 36 = .ok (.iload_n 3, 1) := by decide +kernel
theorem dX0_keepObjectsOf_37 : decode cX0_keepObjectsOf 37 = .ok (.invokevirtual 142, 3) := by decide +kernel
theorem dX0_keepObjectsOf_40 : decode cX0_keepObjectsOf 40 = .ok (.iinc 2 1, 3) := by decide +kernel
theorem dX0_keepObjectsOf_43 : decode cX0_keepObjectsOf 43 = .ok (.goto (-41), 3) := by decide +kernel
theorem dX0_keepObjectsOf_46 : decode cX0_keepObjectsOf 46 = .ok (.return_, 1) := by decide +kernel
theorem dX0_addToRow_0 : decode cX0_addToRow 0 = .ok (.aload_n 0, 1) := by decide +kernel
theorem dX0_addToRow_1 : decode cX0_addToRow 1 = .ok (.getfield 15, 3) := by decide +kernel
theorem dX0_addToRow_4 : decode cX0_addToRow 4 = .ok (.aload_n 0, 1) := by decide +kernel
theorem dX0_addToRow_5 : decode cX0_addToRow 5 = .ok (.getfield 87, 3) := by decide +kernel
theorem dX0_addToRow_8 : decode cX0_addToRow 8 = .ok (.iload_n 1, 1) := by decide +kernel
theorem dX0_addToRow_9 : decode cX0_addToRow 9 = .ok (.iastore, 1) := by decide +kernel
theorem dX0_addToRow_10 : decode cX0_addToRow 10 = .ok (.aload_n 0, 1) := by decide +kernel
theorem dX0_addToRow_11 : decode cX0_addToRow 11 = .ok (.dup, 1) := by decide +kernel
theorem dX0_addToRow_12 : decode cX0_addToRow 12 = .ok (.getfield 87, 3) := by decide +kernel
theorem dX0_addToRow_15 : decode cX0_addToRow 15 = .ok (.iconst 1, 1) := by decide +kernel
theorem dX0_addToRow_16 : decode cX0_addToRow 16 = .ok (.iadd, 1) := by decide +kernel
theorem dX0_addToRow_17 : decode cX0_addToRow 17 = .ok (.putfield 87, 3) := by decide +kernel
theorem dX0_addToRow_20 : decode cX0_addToRow 20 = .ok (.aload_n 0, 1) := by decide +kernel
theorem dX0_addToRow_21 : decode cX0_addToRow 21 = .ok (.getfield 19, 3) := by decide +kernel
theorem dX0_addToRow_24 : decode cX0_addToRow 24 = .ok (.iload_n 1, 1) := by decide +kernel
theorem dX0_addToRow_25 : decode cX0_addToRow 25 = .ok (.iload_n 2, 1) := by decide +kernel
theorem dX0_addToRow_26 : decode cX0_addToRow 26 = .ok (.iastore, 1) := by decide +kernel
theorem dX0_addToRow_27 : decode cX0_addToRow 27 = .ok (.return_, 1) := by decide +kernel
theorem dX0_reachFromRoots_0 : decode cX0_reachFromRoots 0 = .ok (.iconst 0, 1) := by decide +kernel
theorem dX0_reachFromRoots_1 : decode cX0_reachFromRoots 1 = .ok (.istore_n 2, 1) := by decide +kernel
theorem dX0_reachFromRoots_2 : decode cX0_reachFromRoots 2 = .ok (.iload_n 2, 1) := by decide +kernel
theorem dX0_reachFromRoots_3 : decode cX0_reachFromRoots 3 = .ok (.aload_n 1, 1) := by decide +kernel
theorem dX0_reachFromRoots_4 : decode cX0_reachFromRoots 4 = .ok (.arraylength, 1) := by decide +kernel
theorem dX0_reachFromRoots_5 : decode cX0_reachFromRoots 5 = .ok (.if_icmp .ge 21, 3) := by decide +kernel
theorem dX0_reachFromRoots_8 : decode cX0_reachFromRoots 8 = .ok (.aload_n 0, 1) := by decide +kernel
theorem dX0_reachFromRoots_9 : decode cX0_reachFromRoots 9 = .ok (.aload_n 1, 1) := by decide +kernel
theorem dX0_reachFromRoots_10 : decode cX0_reachFromRoots 10 = .ok (.iload_n 2, 1) := by decide +kernel
theorem dX0_reachFromRoots_11 : decode cX0_reachFromRoots 11 = .ok (.iaload, 1) := by decide +kernel
theorem dX0_reachFromRoots_12 : decode cX0_reachFromRoots 12 = .ok (.invokevirtual 146, 3) := by decide +kernel
theorem dX0_reachFromRoots_15 : decode cX0_reachFromRoots 15 = .ok (.ifCond .ne 5, 3) := by decide +kernel
theorem dX0_reachFromRoots_18 : decode cX0_reachFromRoots 18 = .ok (.iconst 0, 1) := by decide +kernel
theorem dX0_reachFromRoots_19 : decode cX0_reachFromRoots 19 = .ok (.ireturn, 1) := by decide +kernel
theorem dX0_reachFromRoots_20 : decode cX0_reachFromRoots 20 = .ok (.iinc 2 1, 3) := by decide +kernel
theorem dX0_reachFromRoots_23 : decode cX0_reachFromRoots 23 = .ok (.goto (-21), 3) := by decide +kernel
theorem dX0_reachFromRoots_26 : decode cX0_reachFromRoots 26 = .ok (.iconst 1, 1) := by decide +kernel
theorem dX0_reachFromRoots_27 : decode cX0_reachFromRoots 27 = .ok (.ireturn, 1) := by decide +kernel
theorem dX0_reachFromRow_0 : decode cX0_reachFromRow 0 = .ok (.iconst 0, 1) := by decide +kernel
theorem dX0_reachFromRow_1 : decode cX0_reachFromRow 1 = .ok (.istore_n 1, 1) := by decide +kernel
theorem dX0_reachFromRow_2 : decode cX0_reachFromRow 2 = .ok (.iload_n 1, 1) := by decide +kernel
theorem dX0_reachFromRow_3 : decode cX0_reachFromRow 3 = .ok (.aload_n 0, 1) := by decide +kernel
theorem dX0_reachFromRow_4 : decode cX0_reachFromRow 4 = .ok (.getfield 15, 3) := by decide +kernel
theorem dX0_reachFromRow_7 : decode cX0_reachFromRow 7 = .ok (.arraylength, 1) := by decide +kernel
theorem dX0_reachFromRow_8 : decode cX0_reachFromRow 8 = .ok (.if_icmp .ge 67, 3) := by decide +kernel
theorem dX0_reachFromRow_11 : decode cX0_reachFromRow 11 = .ok (.iload_n 1, 1) := by decide +kernel
theorem dX0_reachFromRow_12 : decode cX0_reachFromRow 12 = .ok (.aload_n 0, 1) := by decide +kernel
theorem dX0_reachFromRow_13 : decode cX0_reachFromRow 13 = .ok (.getfield 87, 3) := by decide +kernel
theorem dX0_reachFromRow_16 : decode cX0_reachFromRow 16 = .ok (.if_icmp .ge 59, 3) := by decide +kernel
theorem dX0_reachFromRow_19 : decode cX0_reachFromRow 19 = .ok (.aload_n 0, 1) := by decide +kernel
theorem dX0_reachFromRow_20 : decode cX0_reachFromRow 20 = .ok (.getfield 9, 3) := by decide +kernel
theorem dX0_reachFromRow_23 : decode cX0_reachFromRow 23 = .ok (.aload_n 0, 1) := by decide +kernel
theorem dX0_reachFromRow_24 : decode cX0_reachFromRow 24 = .ok (.getfield 15, 3) := by decide +kernel
theorem dX0_reachFromRow_27 : decode cX0_reachFromRow 27 = .ok (.iload_n 1, 1) := by decide +kernel
theorem dX0_reachFromRow_28 : decode cX0_reachFromRow 28 = .ok (.iaload, 1) := by decide +kernel
theorem dX0_reachFromRow_29 : decode cX0_reachFromRow 29 = .ok (.invokevirtual 149, 3) := by decide +kernel
theorem dX0_reachFromRow_32 : decode cX0_reachFromRow 32 = .ok (.istore_n 2, 1) := by decide +kernel
theorem dX0_reachFromRow_33 : decode cX0_reachFromRow 33 = .ok (.iconst 0, 1) := by decide +kernel
theorem dX0_reachFromRow_34 : decode cX0_reachFromRow 34 = .ok (.istore_n 3, 1) := by decide +kernel
theorem dX0_reachFromRow_35 : decode cX0_reachFromRow 35 = .ok (.iload_n 3, 1) := by decide +kernel
theorem dX0_reachFromRow_36 : decode cX0_reachFromRow 36 = .ok (.iload_n 2, 1) := by decide +kernel
theorem dX0_reachFromRow_37 : decode cX0_reachFromRow 37 = .ok (.if_icmp .ge 32, 3) := by decide +kernel
theorem dX0_reachFromRow_40 : decode cX0_reachFromRow 40 = .ok (.aload_n 0, 1) := by decide +kernel
theorem dX0_reachFromRow_41 : decode cX0_reachFromRow 41 = .ok (.aload_n 0, 1) := by decide +kernel
theorem dX0_reachFromRow_42 : decode cX0_reachFromRow 42 = .ok (.getfield 9, 3) := by decide +kernel
theorem dX0_reachFromRow_45 : decode cX0_reachFromRow 45 = .ok (.aload_n 0, 1) := by decide +kernel
theorem dX0_reachFromRow_46 : decode cX0_reachFromRow 46 = .ok (.getfield 15, 3) := by decide +kernel
theorem dX0_reachFromRow_49 : decode cX0_reachFromRow 49 = .ok (.iload_n 1, 1) := by decide +kernel
theorem dX0_reachFromRow_50 : decode cX0_reachFromRow 50 = .ok (.iaload, 1) := by decide +kernel
theorem dX0_reachFromRow_51 : decode cX0_reachFromRow 51 = .ok (.iload_n 3, 1) := by decide +kernel
theorem dX0_reachFromRow_52 : decode cX0_reachFromRow 52 = .ok (.invokevirtual 152, 3) := by decide +kernel
theorem dX0_reachFromRow_55 : decode cX0_reachFromRow 55 = .ok (.invokevirtual 146, 3) := by decide +kernel
theorem dX0_reachFromRow_58 : decode cX0_reachFromRow 58 = .ok (.ifCond .ne 5, 3) := by decide +kernel
theorem dX0_reachFromRow_61 : decode cX0_reachFromRow 61 = .ok (.iconst 0, 1) := by decide +kernel
theorem dX0_reachFromRow_62 : decode cX0_reachFromRow 62 = .ok (.ireturn, 1) := by decide +kernel
theorem dX0_reachFromRow_63 : decode cX0_reachFromRow 63 = .ok (.iinc 3 1, 3) := by decide +kernel
theorem dX0_reachFromRow_66 : decode cX0_reachFromRow 66 = .ok (.goto (-31), 3) := by decide +kernel
theorem dX0_reachFromRow_69 : decode cX0_reachFromRow 69 = .ok (.iinc 1 1, 3) := by decide +kernel
theorem dX0_reachFromRow_72 : decode cX0_reachFromRow 72 = .ok (.goto (-70), 3) := by decide +kernel
theorem dX0_reachFromRow_75 : decode cX0_reachFromRow 75 = .ok (.iconst 1, 1) := by decide +kernel
theorem dX0_reachFromRow_76 : decode cX0_reachFromRow 76 = .ok (.ireturn, 1) := by decide +kernel
theorem dX0_reach_0 : decode cX0_reach 0 = .ok (.aload_n 0, 1) := by decide +kernel
theorem dX0_reach_1 : decode cX0_reach 1 = .ok (.getfield 9, 3) := by decide +kernel
theorem dX0_reach_4 : decode cX0_reach 4 = .ok (.iload_n 1, 1) := by decide +kernel
theorem dX0_reach_5 : decode cX0_reach 5 = .ok (.invokevirtual 139, 3) := by decide +kernel
theorem dX0_reach_8 : decode cX0_reach 8 = .ok (.ifCond .eq 13, 3) := by decide +kernel
theorem dX0_reach_11 : decode cX0_reach 11 = .ok (.aload_n 0, 1) := by decide +kernel
theorem dX0_reach_12 : decode cX0_reach 12 = .ok (.getfield 19, 3) := by decide +kernel
theorem dX0_reach_15 : decode cX0_reach 15 = .ok (.iload_n 1, 1) := by decide +kernel
theorem dX0_reach_16 : decode cX0_reach 16 = .ok (.iaload, 1) := by decide +kernel
theorem dX0_reach_17 : decode cX0_reach 17 = .ok (.iconst (-1), 1) := by decide +kernel
theorem dX0_reach_18 : decode cX0_reach 18 = .ok (.if_icmp .eq 5, 3) := by decide +kernel
theorem dX0_reach_21 : decode cX0_reach 21 = .ok (.iconst 1, 1) := by decide +kernel
theorem dX0_reach_22 : decode cX0_reach 22 = .ok (.ireturn, 1) := by decide +kernel
theorem dX0_reach_23 : decode cX0_reach 23 = .ok (.aload_n 0, 1) := by decide +kernel
theorem dX0_reach_24 : decode cX0_reach 24 = .ok (.getfield 9, 3) := by decide +kernel
theorem dX0_reach_27 : decode cX0_reach 27 = .ok (.iload_n 1, 1) := by decide +kernel
theorem dX0_reach_28 : decode cX0_reach 28 = .ok (.invokevirtual 155, 3) := by decide +kernel
theorem dX0_reach_31 : decode cX0_reach 31 = .ok (.ifCond .eq 10, 3) := by decide +kernel
theorem dX0_reach_34 : decode cX0_reach 34 = .ok (.aload_n 0, 1) := by decide +kernel
theorem dX0_reach_35 : decode cX0_reach 35 = .ok (.iload_n 1, 1) := by decide +kernel
theorem dX0_reach_36 : decode cX0_reach 36 = .ok (.invokevirtual 158, 3) := by decide +kernel
theorem dX0_reach_39 : decode cX0_reach 39 = .ok (.iconst 1, 1) := by decide +kernel
theorem dX0_reach_40 : decode cX0_reach 40 = .ok (.ireturn, 1) := by decide +kernel
theorem dX0_reach_41 : decode cX0_reach 41 = .ok (.aload_n 0, 1) := by decide +kernel
theorem dX0_reach_42 : decode cX0_reach 42 = .ok (.iload_n 1, 1) := by decide +kernel
theorem dX0_reach_43 : decode cX0_reach 43 = .ok (.invokevirtual 161, 3) := by decide +kernel
theorem dX0_reach_46 : decode cX0_reach 46 = .ok (.ireturn, 1) := by decide +kernel
theorem dX0_keepLong_0 : decode cX0_keepLong 0 = .ok (.aload_n 0, 1) := by decide +kernel
theorem dX0_keepLong_1 : decode cX0_keepLong 1 = .ok (.getfield 9, 3) := by decide +kernel
theorem dX0_keepLong_4 : decode cX0_keepLong 4 = .ok (.iload_n 1, 1) := by decide +kernel
theorem dX0_keepLong_5 : decode cX0_keepLong 5 = .ok (.invokevirtual 108, 3) := by decide +kernel
theorem dX0_keepLong_8 : decode cX0_keepLong 8 = .ok (.istore_n 2, 1) := by decide +kernel
theorem dX0_keepLong_9 : decode cX0_keepLong 9 = .ok (.aload_n 0, 1) := by decide +kernel
theorem dX0_keepLong_10 : decode cX0_keepLong 10 = .ok (.getfield 9, 3) := by decide +kernel
theorem dX0_keepLong_13 : decode cX0_keepLong 13 = .ok (.iload_n 2, 1) := by decide +kernel
theorem dX0_keepLong_14 : decode cX0_keepLong 14 = .ok (.invokevirtual 122, 3) := by decide +kernel
theorem dX0_keepLong_17 : decode cX0_keepLong 17 = .ok (.istore_n 3, 1) := by decide +kernel
theorem dX0_keepLong_18 : decode cX0_keepLong 18 = .ok (.iload_n 2, 1) := by decide +kernel
theorem dX0_keepLong_19 : decode cX0_keepLong 19 = .ok (.istore 4, 2) := by decide +kernel
theorem dX0_keepLong_21 : decode cX0_keepLong 21 = .ok (.iload 4, 2) := by decide +kernel
theorem dX0_keepLong_23 : decode cX0_keepLong 23 = .ok (.iload_n 3, 1) := by decide +kernel
theorem dX0_keepLong_24 : decode cX0_keepLong 24 = .ok (.if_icmp .ge 17, 3) := by decide +kernel
theorem dX0_keepLong_27 : decode cX0_keepLong 27 = .ok (.aload_n 0, 1) := by decide +kernel
theorem dX0_keepLong_28 : decode cX0_keepLong 28 = .ok (.getfield 26, 3) := by decide +kernel
theorem dX0_keepLong_31 : decode cX0_keepLong 31 = .ok (.iload 4, 2) := by decide +kernel
theorem dX0_keepLong_33 : decode cX0_keepLong 33 = .ok (.iconst 1, 1) := by decide +kernel
theorem dX0_keepLong_34 : decode cX0_keepLong 34 = .ok (.bastore, 1) := by decide +kernel
theorem dX0_keepLong_35 : decode cX0_keepLong 35 = .ok (.iinc 4 1, 3) := by decide +kernel
theorem dX0_keepLong_38 : decode cX0_keepLong 38 = .ok (.goto (-17), 3) := by decide +kernel
theorem dX0_keepLong_41 : decode cX0_keepLong 41 = .ok (.aload_n 0, 1) := by decide +kernel
theorem dX0_keepLong_42 : decode cX0_keepLong 42 = .ok (.iload_n 1, 1) := by decide +kernel
theorem dX0_keepLong_43 : decode cX0_keepLong 43 = .ok (.iload_n 1, 1) := by decide +kernel
theorem dX0_keepLong_44 : decode cX0_keepLong 44 = .ok (.invokevirtual 142, 3) := by decide +kernel
theorem dX0_keepLong_47 : decode cX0_keepLong 47 = .ok (.return_, 1) := by decide +kernel
theorem dX0_planMove_0 : decode cX0_planMove 0 = .ok (.aload_n 0, 1) := by decide +kernel
theorem dX0_planMove_1 : decode cX0_planMove 1 = .ok (.getfield 9, 3) := by decide +kernel
theorem dX0_planMove_4 : decode cX0_planMove 4 = .ok (.iload_n 1, 1) := by decide +kernel
theorem dX0_planMove_5 : decode cX0_planMove 5 = .ok (.invokevirtual 164, 3) := by decide +kernel
theorem dX0_planMove_8 : decode cX0_planMove 8 = .ok (.istore_n 2, 1) := by decide +kernel
theorem dX0_planMove_9 : decode cX0_planMove 9 = .ok (.aload_n 0, 1) := by decide +kernel
theorem dX0_planMove_10 : decode cX0_planMove 10 = .ok (.getfield 90, 3) := by decide +kernel
theorem dX0_planMove_13 : decode cX0_planMove 13 = .ok (.iconst (-1), 1) := by decide +kernel
theorem dX0_planMove_14 : decode cX0_planMove 14 = .ok (.if_icmp .eq 19, 3) := by decide +kernel
theorem dX0_planMove_17 : decode cX0_planMove 17 = .ok (.iload_n 2, 1) := by decide +kernel
theorem dX0_planMove_18 : decode cX0_planMove 18 = .ok (.aload_n 0, 1) := by decide +kernel
theorem dX0_planMove_19 : decode cX0_planMove 19 = .ok (.getfield 9, 3) := by decide +kernel
theorem dX0_planMove_22 : decode cX0_planMove 22 = .ok (.invokevirtual 132, 3) := by decide +kernel
theorem dX0_planMove_25 : decode cX0_planMove 25 = .ok (.aload_n 0, 1) := by decide +kernel
theorem dX0_planMove_26 : decode cX0_planMove 26 = .ok (.getfield 93, 3) := by decide +kernel
theorem dX0_planMove_29 : decode cX0_planMove 29 = .ok (.isub, 1) := by decide +kernel
theorem dX0_planMove_30 : decode cX0_planMove 30 = .ok (.if_icmp .le 51, 3) := by decide +kernel
theorem dX0_planMove_33 : decode cX0_planMove 33 = .ok (.aload_n 0, 1) := by decide +kernel
theorem dX0_planMove_34 : decode cX0_planMove 34 = .ok (.getfield 9, 3) := by decide +kernel
theorem dX0_planMove_37 : decode cX0_planMove 37 = .ok (.aload_n 0, 1) := by decide +kernel
theorem dX0_planMove_38 : decode cX0_planMove 38 = .ok (.getfield 90, 3) := by decide +kernel
theorem dX0_planMove_41 : decode cX0_planMove 41 = .ok (.iconst 1, 1) := by decide +kernel
theorem dX0_planMove_42 : decode cX0_planMove 42 = .ok (.iadd, 1) := by decide +kernel
theorem dX0_planMove_43 : decode cX0_planMove 43 = .ok (.invokevirtual 167, 3) := by decide +kernel
theorem dX0_planMove_46 : decode cX0_planMove 46 = .ok (.istore_n 3, 1) := by decide +kernel
theorem dX0_planMove_47 : decode cX0_planMove 47 = .ok (.iload_n 3, 1) := by decide +kernel
theorem dX0_planMove_48 : decode cX0_planMove 48 = .ok (.iconst (-1), 1) := by decide +kernel
theorem dX0_planMove_49 : decode cX0_planMove 49 = .ok (.if_icmp .ne 5, 3) := by decide +kernel
theorem dX0_planMove_52 : decode cX0_planMove 52 = .ok (.iconst 0, 1) := by decide +kernel
theorem dX0_planMove_53 : decode cX0_planMove 53 = .ok (.ireturn, 1) := by decide +kernel
theorem dX0_planMove_54 : decode cX0_planMove 54 = .ok (.aload_n 0, 1) := by decide +kernel
theorem dX0_planMove_55 : decode cX0_planMove 55 = .ok (.iload_n 3, 1) := by decide +kernel
theorem dX0_planMove_56 : decode cX0_planMove 56 = .ok (.putfield 90, 3) := by decide +kernel
theorem dX0_planMove_59 : decode cX0_planMove 59 = .ok (.aload_n 0, 1) := by decide +kernel
theorem dX0_planMove_60 : decode cX0_planMove 60 = .ok (.iconst 0, 1) := by decide +kernel
theorem dX0_planMove_61 : decode cX0_planMove 61 = .ok (.putfield 93, 3) := by decide +kernel
theorem dX0_planMove_64 : decode cX0_planMove 64 = .ok (.aload_n 0, 1) := by decide +kernel
theorem dX0_planMove_65 : decode cX0_planMove 65 = .ok (.getfield 26, 3) := by decide +kernel
theorem dX0_planMove_68 : decode cX0_planMove 68 = .ok (.iload_n 3, 1) := by decide +kernel
theorem dX0_planMove_69 : decode cX0_planMove 69 = .ok (.iconst 1, 1) := by decide +kernel
theorem dX0_planMove_70 : decode cX0_planMove 70 = .ok (.bastore, 1) := by decide +kernel
theorem dX0_planMove_71 : decode cX0_planMove 71 = .ok (.aload_n 0, 1) := by decide +kernel
theorem dX0_planMove_72 : decode cX0_planMove 72 = .ok (.dup, 1) := by decide +kernel
theorem dX0_planMove_73 : decode cX0_planMove 73 = .ok (.getfield 99, 3) := by decide +kernel
theorem dX0_planMove_76 : decode cX0_planMove 76 = .ok (.iconst 1, 1) := by decide +kernel
theorem dX0_planMove_77 : decode cX0_planMove 77 = .ok (.iadd, 1) := by decide +kernel
theorem dX0_planMove_78 : decode cX0_planMove 78 = .ok (.putfield 99, 3) := by decide +kernel
theorem dX0_planMove_81 : decode cX0_planMove 81 = .ok (.aload_n 0, 1) := by decide +kernel
theorem dX0_planMove_82 : decode cX0_planMove 82 = .ok (.iload_n 1, 1) := by decide +kernel
theorem dX0_planMove_83 : decode cX0_planMove 83 = .ok (.aload_n 0, 1) := by decide +kernel
theorem dX0_planMove_84 : decode cX0_planMove 84 = .ok (.getfield 9, 3) := by decide +kernel
theorem dX0_planMove_87 : decode cX0_planMove 87 = .ok (.aload_n 0, 1) := by decide +kernel
theorem dX0_planMove_88 : decode cX0_planMove 88 = .ok (.getfield 90, 3) := by decide +kernel
theorem dX0_planMove_91 : decode cX0_planMove 91 = .ok (.aload_n 0, 1) := by decide +kernel
theorem dX0_planMove_92 : decode cX0_planMove 92 = .ok (.getfield 93, 3) := by decide +kernel
theorem dX0_planMove_95 : decode cX0_planMove 95 = .ok (.invokevirtual 135, 3) := by decide +kernel
theorem dX0_planMove_98 : decode cX0_planMove 98 = .ok (.invokevirtual 142, 3) := by decide +kernel
theorem dX0_planMove_101 : decode cX0_planMove 101 = .ok (.aload_n 0, 1) := by decide +kernel
theorem dX0_planMove_102 : decode cX0_planMove 102 = .ok (.dup, 1) := by decide +kernel
theorem dX0_planMove_103 : decode cX0_planMove 103 = .ok (.getfield 93, 3) := by decide +kernel
theorem dX0_planMove_106 : decode cX0_planMove 106 = .ok (.iload_n 2, 1) := by decide +kernel
theorem dX0_planMove_107 : decode cX0_planMove 107 = .ok (.iadd, 1) := by decide +kernel
theorem dX0_planMove_108 : decode cX0_planMove 108 = .ok (.putfield 93, 3) := by decide +kernel
theorem dX0_planMove_111 : decode cX0_planMove 111 = .ok (.aload_n 0, 1) := by decide +kernel
theorem dX0_planMove_112 : decode cX0_planMove 112 = .ok (.dup, 1) := by decide +kernel
theorem dX0_planMove_113 : decode cX0_planMove 113 = .ok (.getfield 96, 3) := by decide +kernel
theorem dX0_planMove_116 : decode cX0_planMove 116 = .ok (.iconst 1, 1) := by decide +kernel
theorem dX0_planMove_117 : decode cX0_planMove 117 = .ok (.iadd, 1) := by decide +kernel
theorem dX0_planMove_118 : decode cX0_planMove 118 = .ok (.putfield 96, 3) := by decide +kernel
theorem dX0_planMove_121 : decode cX0_planMove 121 = .ok (.iconst 1, 1) := by decide +kernel
theorem dX0_planMove_122 : decode cX0_planMove 122 = .ok (.ireturn, 1) := by decide +kernel
theorem dX0_moveRow_0 : decode cX0_moveRow 0 = .ok (.iconst 0, 1) := by decide +kernel
theorem dX0_moveRow_1 : decode cX0_moveRow 1 = .ok (.istore_n 1, 1) := by decide +kernel
theorem dX0_moveRow_2 : decode cX0_moveRow 2 = .ok (.iload_n 1, 1) := by decide +kernel
theorem dX0_moveRow_3 : decode cX0_moveRow 3 = .ok (.aload_n 0, 1) := by decide +kernel
theorem dX0_moveRow_4 : decode cX0_moveRow 4 = .ok (.getfield 87, 3) := by decide +kernel
theorem dX0_moveRow_7 : decode cX0_moveRow 7 = .ok (.if_icmp .ge 42, 3) := by decide +kernel
theorem dX0_moveRow_10 : decode cX0_moveRow 10 = .ok (.aload_n 0, 1) := by decide +kernel
theorem dX0_moveRow_11 : decode cX0_moveRow 11 = .ok (.getfield 15, 3) := by decide +kernel
theorem dX0_moveRow_14 : decode cX0_moveRow 14 = .ok (.iload_n 1, 1) := by decide +kernel
theorem dX0_moveRow_15 : decode cX0_moveRow 15 = .ok (.iaload, 1) := by decide +kernel
theorem dX0_moveRow_16 : decode cX0_moveRow 16 = .ok (.istore_n 2, 1) := by decide +kernel
theorem dX0_moveRow_17 : decode cX0_moveRow 17 = .ok (.aload_n 0, 1) := by decide +kernel
theorem dX0_moveRow_18 : decode cX0_moveRow 18 = .ok (.getfield 19, 3) := by decide +kernel
theorem dX0_moveRow_21 : decode cX0_moveRow 21 = .ok (.iload_n 2, 1) := by decide +kernel
theorem dX0_moveRow_22 : decode cX0_moveRow 22 = .ok (.iaload, 1) := by decide +kernel
theorem dX0_moveRow_23 : decode cX0_moveRow 23 = .ok (.istore_n 3, 1) := by decide +kernel
theorem dX0_moveRow_24 : decode cX0_moveRow 24 = .ok (.iload_n 2, 1) := by decide +kernel
theorem dX0_moveRow_25 : decode cX0_moveRow 25 = .ok (.iload_n 3, 1) := by decide +kernel
theorem dX0_moveRow_26 : decode cX0_moveRow 26 = .ok (.if_icmp .eq 12, 3) := by decide +kernel
theorem dX0_moveRow_29 : decode cX0_moveRow 29 = .ok (.aload_n 0, 1) := by decide +kernel
theorem dX0_moveRow_30 : decode cX0_moveRow 30 = .ok (.getfield 9, 3) := by decide +kernel
theorem dX0_moveRow_33 : decode cX0_moveRow 33 = .ok (.iload_n 2, 1) := by decide +kernel
theorem dX0_moveRow_34 : decode cX0_moveRow 34 = .ok (.iload_n 3, 1) := by decide +kernel
theorem dX0_moveRow_35 : decode cX0_moveRow 35 = .ok (.invokevirtual 170, 3) := by decide +kernel
theorem dX0_moveRow_38 : decode cX0_moveRow 38 = .ok (.aload_n 0, 1) := by decide +kernel
theorem dX0_moveRow_39 : decode cX0_moveRow 39 = .ok (.iload_n 3, 1) := by decide +kernel
theorem dX0_moveRow_40 : decode cX0_moveRow 40 = .ok (.invokevirtual 173, 3) := by decide +kernel
theorem dX0_moveRow_43 : decode cX0_moveRow 43 = .ok (.iinc 1 1, 3) := by decide +kernel
theorem dX0_moveRow_46 : decode cX0_moveRow 46 = .ok (.goto (-44), 3) := by decide +kernel
theorem dX0_moveRow_49 : decode cX0_moveRow 49 = .ok (.return_, 1) := by decide +kernel
theorem dX0_tellNewRefs_0 : decode cX0_tellNewRefs 0 = .ok (.aload_n 0, 1) := by decide +kernel
theorem dX0_tellNewRefs_1 : decode cX0_tellNewRefs 1 = .ok (.getfield 9, 3) := by decide +kernel
theorem dX0_tellNewRefs_4 : decode cX0_tellNewRefs 4 = .ok (.iload_n 1, 1) := by decide +kernel
theorem dX0_tellNewRefs_5 : decode cX0_tellNewRefs 5 = .ok (.invokevirtual 149, 3) := by decide +kernel
theorem dX0_tellNewRefs_8 : decode cX0_tellNewRefs 8 = .ok (.istore_n 2, 1) := by decide +kernel
theorem dX0_tellNewRefs_9 : decode cX0_tellNewRefs 9 = .ok (.iconst 0, 1) := by decide +kernel
theorem dX0_tellNewRefs_10 : decode cX0_tellNewRefs 10 = .ok (.istore_n 3, 1) := by decide +kernel
theorem dX0_tellNewRefs_11 : decode cX0_tellNewRefs 11 = .ok (.iload_n 3, 1) := by decide +kernel
theorem dX0_tellNewRefs_12 : decode cX0_tellNewRefs 12 = .ok (.iload_n 2, 1) := by decide +kernel
theorem dX0_tellNewRefs_13 : decode cX0_tellNewRefs 13 = .ok (.if_icmp .ge 31, 3) := by decide +kernel
theorem dX0_tellNewRefs_16 : decode cX0_tellNewRefs 16 = .ok (.aload_n 0, 1) := by decide +kernel
theorem dX0_tellNewRefs_17 : decode cX0_tellNewRefs 17 = .ok (.getfield 9, 3) := by decide +kernel
theorem dX0_tellNewRefs_20 : decode cX0_tellNewRefs 20 = .ok (.iload_n 1, 1) := by decide +kernel
theorem dX0_tellNewRefs_21 : decode cX0_tellNewRefs 21 = .ok (.iload_n 3, 1) := by decide +kernel
theorem dX0_tellNewRefs_22 : decode cX0_tellNewRefs 22 = .ok (.aload_n 0, 1) := by decide +kernel
theorem dX0_tellNewRefs_23 : decode cX0_tellNewRefs 23 = .ok (.aload_n 0, 1) := by decide +kernel
theorem dX0_tellNewRefs_24 : decode cX0_tellNewRefs 24 = .ok (.getfield 9, 3) := by decide +kernel
theorem dX0_tellNewRefs_27 : decode cX0_tellNewRefs 27 = .ok (.iload_n 1, 1) := by decide +kernel
theorem dX0_tellNewRefs_28 : decode cX0_tellNewRefs 28 = .ok (.iload_n 3, 1) := by decide +kernel
theorem dX0_tellNewRefs_29 : decode cX0_tellNewRefs 29 = .ok (.invokevirtual 152, 3) := by decide +kernel
theorem dX0_tellNewRefs_32 : decode cX0_tellNewRefs 32 = .ok (.invokevirtual 176, 3) := by decide +kernel
theorem dX0_tellNewRefs_35 : decode cX0_tellNewRefs 35 = .ok (.invokevirtual 179, 3) := by decide +kernel
theorem dX0_tellNewRefs_38 : decode cX0_tellNewRefs 38 = .ok (.iinc 3 1, 3) := by decide +kernel
theorem dX0_tellNewRefs_41 : decode cX0_tellNewRefs 41 = .ok (.goto (-30), 3) := by decide +kernel
theorem dX0_tellNewRefs_44 : decode cX0_tellNewRefs 44 = .ok (.return_, 1) := by decide +kernel
theorem dX0_tellNewAddresses_0 : decode cX0_tellNewAddresses 0 = .ok (.iconst 0, 1) := by decide +kernel
theorem dX0_tellNewAddresses_1 : decode cX0_tellNewAddresses 1 = .ok (.istore_n 2, 1) := by decide +kernel
theorem dX0_tellNewAddresses_2 : decode cX0_tellNewAddresses 2 = .ok (.iload_n 2, 1) := by decide +kernel
theorem dX0_tellNewAddresses_3 : decode cX0_tellNewAddresses 3 = .ok (.aload_n 1, 1) := by decide +kernel
theorem dX0_tellNewAddresses_4 : decode cX0_tellNewAddresses 4 = .ok (.arraylength, 1) := by decide +kernel
theorem dX0_tellNewAddresses_5 : decode cX0_tellNewAddresses 5 = .ok (.if_icmp .ge 19, 3) := by decide +kernel
theorem dX0_tellNewAddresses_8 : decode cX0_tellNewAddresses 8 = .ok (.aload_n 1, 1) := by decide +kernel
theorem dX0_tellNewAddresses_9 : decode cX0_tellNewAddresses 9 = .ok (.iload_n 2, 1) := by decide +kernel
theorem dX0_tellNewAddresses_10 : decode cX0_tellNewAddresses 10 = .ok (.aload_n 0, 1) := by decide +kernel
theorem dX0_tellNewAddresses_11 : decode cX0_tellNewAddresses 11 = .ok (.aload_n 1, 1) := by decide +kernel
theorem dX0_tellNewAddresses_12 : decode cX0_tellNewAddresses 12 = .ok (.iload_n 2, 1) := by decide +kernel
theorem dX0_tellNewAddresses_13 : decode cX0_tellNewAddresses 13 = .ok (.iaload, 1) := by decide +kernel
theorem dX0_tellNewAddresses_14 : decode cX0_tellNewAddresses 14 = .ok (.invokevirtual 176, 3) := by decide +kernel
theorem dX0_tellNewAddresses_17 : decode cX0_tellNewAddresses 17 = .ok (.iastore, 1) := by decide +kernel
theorem dX0_tellNewAddresses_18 : decode cX0_tellNewAddresses 18 = .ok (.iinc 2 1, 3) := by decide +kernel
theorem dX0_tellNewAddresses_21 : decode cX0_tellNewAddresses 21 = .ok (.goto (-19), 3) := by decide +kernel
theorem dX0_tellNewAddresses_24 : decode cX0_tellNewAddresses 24 = .ok (.return_, 1) := by decide +kernel
theorem dX0_newAddressOf_0 : decode cX0_newAddressOf 0 = .ok (.aload_n 0, 1) := by decide +kernel
theorem dX0_newAddressOf_1 : decode cX0_newAddressOf 1 = .ok (.getfield 9, 3) := by decide +kernel
theorem dX0_newAddressOf_4 : decode cX0_newAddressOf 4 = .ok (.iload_n 1, 1) := by decide +kernel
theorem dX0_newAddressOf_5 : decode cX0_newAddressOf 5 = .ok (.invokevirtual 102, 3) := by decide +kernel
theorem dX0_newAddressOf_8 : decode cX0_newAddressOf 8 = .ok (.ifCond .eq 12, 3) := by decide +kernel
theorem dX0_newAddressOf_11 : decode cX0_newAddressOf 11 = .ok (.aload_n 0, 1) := by decide +kernel
theorem dX0_newAddressOf_12 : decode cX0_newAddressOf 12 = .ok (.getfield 19, 3) := by decide +kernel
theorem dX0_newAddressOf_15 : decode cX0_newAddressOf 15 = .ok (.iload_n 1, 1) := by decide +kernel
theorem dX0_newAddressOf_16 : decode cX0_newAddressOf 16 = .ok (.iaload, 1) := by decide +kernel
theorem dX0_newAddressOf_17 : decode cX0_newAddressOf 17 = .ok (.goto 4, 3) := by decide +kernel
theorem dX0_newAddressOf_20 : decode cX0_newAddressOf 20 = .ok (.iconst (-1), 1) := by decide +kernel
theorem dX0_newAddressOf_21 : decode cX0_newAddressOf 21 = .ok (.ireturn, 1) := by decide +kernel
theorem dX0_finish_0 : decode cX0_finish 0 = .ok (.aload_n 0, 1) := by decide +kernel
theorem dX0_finish_1 : decode cX0_finish 1 = .ok (.aload_n 0, 1) := by decide +kernel
theorem dX0_finish_2 : decode cX0_finish 2 = .ok (.getfield 9, 3) := by decide +kernel
theorem dX0_finish_5 : decode cX0_finish 5 = .ok (.aload_n 0, 1) := by decide +kernel
theorem dX0_finish_6 : decode cX0_finish 6 = .ok (.getfield 26, 3) := by decide +kernel
theorem dX0_finish_9 : decode cX0_finish 9 = .ok (.invokevirtual 183, 3) := by decide +kernel
theorem dX0_finish_12 : decode cX0_finish 12 = .ok (.putfield 57, 3) := by decide +kernel
theorem dX0_finish_15 : decode cX0_finish 15 = .ok (.aload_n 0, 1) := by decide +kernel
theorem dX0_finish_16 : decode cX0_finish 16 = .ok (.getfield 9, 3) := by decide +kernel
theorem dX0_finish_19 : decode cX0_finish 19 = .ok (.aload_n 0, 1) := by decide +kernel
theorem dX0_finish_20 : decode cX0_finish 20 = .ok (.getfield 90, 3) := by decide +kernel
theorem dX0_finish_23 : decode cX0_finish 23 = .ok (.invokevirtual 187, 3) := by decide +kernel
theorem dX0_finish_26 : decode cX0_finish 26 = .ok (.aload_n 0, 1) := by decide +kernel
theorem dX0_finish_27 : decode cX0_finish 27 = .ok (.iconst 0, 1) := by decide +kernel
theorem dX0_finish_28 : decode cX0_finish 28 = .ok (.putfield 45, 3) := by decide +kernel
theorem dX0_finish_31 : decode cX0_finish 31 = .ok (.iconst 0, 1) := by decide +kernel
theorem dX0_finish_32 : decode cX0_finish 32 = .ok (.istore_n 1, 1) := by decide +kernel
theorem dX0_finish_33 : decode cX0_finish 33 = .ok (.iload_n 1, 1) := by decide +kernel
theorem dX0_finish_34 : decode cX0_finish 34 = .ok (.bipush 64, 2) := by decide +kernel
theorem dX0_finish_36 : decode cX0_finish 36 = .ok (.if_icmp .ge 44, 3) := by decide +kernel
theorem dX0_finish_39 : decode cX0_finish 39 = .ok (.aload_n 0, 1) := by decide +kernel
theorem dX0_finish_40 : decode cX0_finish 40 = .ok (.getfield 29, 3) := by decide +kernel
theorem dX0_finish_43 : decode cX0_finish 43 = .ok (.iload_n 1, 1) := by decide +kernel
theorem dX0_finish_44 : decode cX0_finish 44 = .ok (.aload_n 0, 1) := by decide +kernel
theorem dX0_finish_45 : decode cX0_finish 45 = .ok (.getfield 22, 3) := by decide +kernel
theorem dX0_finish_48 : decode cX0_finish 48 = .ok (.iload_n 1, 1) := by decide +kernel
theorem dX0_finish_49 : decode cX0_finish 49 = .ok (.baload, 1) := by decide +kernel
theorem dX0_finish_50 : decode cX0_finish 50 = .ok (.ifCond .eq 7, 3) := by decide +kernel
theorem dX0_finish_53 : decode cX0_finish 53 = .ok (.iconst 1, 1) := by decide +kernel
theorem dX0_finish_54 : decode cX0_finish 54 = .ok (.goto 4, 3) := by decide +kernel
theorem dX0_finish_57 : decode cX0_finish 57 = .ok (.iconst 0, 1) := by decide +kernel
theorem dX0_finish_58 : decode cX0_finish 58 = .ok (.iastore, 1) := by decide +kernel
theorem dX0_finish_59 : decode cX0_finish 59 = .ok (.aload_n 0, 1) := by decide +kernel
theorem dX0_finish_60 : decode cX0_finish 60 = .ok (.dup, 1) := by decide +kernel
theorem dX0_finish_61 : decode cX0_finish 61 = .ok (.getfield 45, 3) := by decide +kernel
theorem dX0_finish_64 : decode cX0_finish 64 = .ok (.aload_n 0, 1) := by decide +kernel
theorem dX0_finish_65 : decode cX0_finish 65 = .ok (.getfield 29, 3) := by decide +kernel
theorem dX0_finish_68 : decode cX0_finish 68 = .ok (.iload_n 1, 1) := by decide +kernel
theorem dX0_finish_69 : decode cX0_finish 69 = .ok (.iaload, 1) := by decide +kernel
theorem dX0_finish_70 : decode cX0_finish 70 = .ok (.iadd, 1) := by decide +kernel
theorem dX0_finish_71 : decode cX0_finish 71 = .ok (.putfield 45, 3) := by decide +kernel
theorem dX0_finish_74 : decode cX0_finish 74 = .ok (.iinc 1 1, 3) := by decide +kernel
theorem dX0_finish_77 : decode cX0_finish 77 = .ok (.goto (-44), 3) := by decide +kernel
theorem dX0_finish_80 : decode cX0_finish 80 = .ok (.aload_n 0, 1) := by decide +kernel
theorem dX0_finish_81 : decode cX0_finish 81 = .ok (.aload_n 0, 1) := by decide +kernel
theorem dX0_finish_82 : decode cX0_finish 82 = .ok (.getfield 87, 3) := by decide +kernel
theorem dX0_finish_85 : decode cX0_finish 85 = .ok (.putfield 48, 3) := by decide +kernel
theorem dX0_finish_88 : decode cX0_finish 88 = .ok (.aload_n 0, 1) := by decide +kernel
theorem dX0_finish_89 : decode cX0_finish 89 = .ok (.aload_n 0, 1) := by decide +kernel
theorem dX0_finish_90 : decode cX0_finish 90 = .ok (.getfield 96, 3) := by decide +kernel
theorem dX0_finish_93 : decode cX0_finish 93 = .ok (.putfield 51, 3) := by decide +kernel
theorem dX0_finish_96 : decode cX0_finish 96 = .ok (.aload_n 0, 1) := by decide +kernel
theorem dX0_finish_97 : decode cX0_finish 97 = .ok (.aload_n 0, 1) := by decide +kernel
theorem dX0_finish_98 : decode cX0_finish 98 = .ok (.getfield 99, 3) := by decide +kernel
theorem dX0_finish_101 : decode cX0_finish 101 = .ok (.putfield 54, 3) := by decide +kernel
theorem dX0_finish_104 : decode cX0_finish 104 = .ok (.aload_n 0, 1) := by decide +kernel
theorem dX0_finish_105 : decode cX0_finish 105 = .ok (.dup, 1) := by decide +kernel
theorem dX0_finish_106 : decode cX0_finish 106 = .ok (.getfield 32, 3) := by decide +kernel
theorem dX0_finish_109 : decode cX0_finish 109 = .ok (.iconst 1, 1) := by decide +kernel
theorem dX0_finish_110 : decode cX0_finish 110 = .ok (.iadd, 1) := by decide +kernel
theorem dX0_finish_111 : decode cX0_finish 111 = .ok (.putfield 32, 3) := by decide +kernel
theorem dX0_finish_114 : decode cX0_finish 114 = .ok (.return_, 1) := by decide +kernel
theorem dX1_init_0 : decode cX1_init 0 = .ok (.aload_n 0, 1) := by decide +kernel
theorem dX1_init_1 : decode cX1_init 1 = .ok (.invokespecial 3, 3) := by decide +kernel
theorem dX1_init_4 : decode cX1_init 4 = .ok (.aload_n 0, 1) := by decide +kernel
theorem dX1_init_5 : decode cX1_init 5 = .ok (.sipush 4096, 3) := by decide +kernel
theorem dX1_init_8 : decode cX1_init 8 = .ok (.newarray .int, 2) := by decide +kernel
theorem dX1_init_10 : decode cX1_init 10 = .ok (.putfield 9, 3) := by decide +kernel
theorem dX1_init_13 : decode cX1_init 13 = .ok (.aload_n 0, 1) := by decide +kernel
theorem dX1_init_14 : decode cX1_init 14 = .ok (.bipush 64, 2) := by decide +kernel
theorem dX1_init_16 : decode cX1_init 16 = .ok (.newarray .int, 2) := by decide +kernel
theorem dX1_init_18 : decode cX1_init 18 = .ok (.putfield 15, 3) := by decide +kernel
theorem dX1_init_21 : decode cX1_init 21 = .ok (.aload_n 0, 1) := by decide +kernel
theorem dX1_init_22 : decode cX1_init 22 = .ok (.bipush 64, 2) := by decide +kernel
theorem dX1_init_24 : decode cX1_init 24 = .ok (.newarray .int, 2) := by decide +kernel
theorem dX1_init_26 : decode cX1_init 26 = .ok (.putfield 18, 3) := by decide +kernel
theorem dX1_init_29 : decode cX1_init 29 = .ok (.aload_n 0, 1) := by decide +kernel
theorem dX1_init_30 : decode cX1_init 30 = .ok (.bipush 64, 2) := by decide +kernel
theorem dX1_init_32 : decode cX1_init 32 = .ok (.newarray .long, 2) := by decide +kernel
theorem dX1_init_34 : decode cX1_init 34 = .ok (.putfield 21, 3) := by decide +kernel
theorem dX1_init_37 : decode cX1_init 37 = .ok (.aload_n 0, 1) := by decide +kernel
theorem dX1_init_38 : decode cX1_init 38 = .ok (.iconst 4, 1) := by decide +kernel
theorem dX1_init_39 : decode cX1_init 39 = .ok (.putfield 25, 3) := by decide +kernel
theorem dX1_init_42 : decode cX1_init 42 = .ok (.aload_n 0, 1) := by decide +kernel
theorem dX1_init_43 : decode cX1_init 43 = .ok (.bipush 8, 2) := by decide +kernel
theorem dX1_init_45 : decode cX1_init 45 = .ok (.putfield 29, 3) := by decide +kernel
theorem dX1_init_48 : decode cX1_init 48 = .ok (.aload_n 0, 1) := by decide +kernel
theorem dX1_init_49 : decode cX1_init 49 = .ok (.iconst (-1), 1) := by decide +kernel
theorem dX1_init_50 : decode cX1_init 50 = .ok (.putfield 32, 3) := by decide +kernel
theorem dX1_init_53 : decode cX1_init 53 = .ok (.return_, 1) := by decide +kernel
theorem dX1_startOver_0 : decode cX1_startOver 0 = .ok (.aload_n 0, 1) := by decide +kernel
theorem dX1_startOver_1 : decode cX1_startOver 1 = .ok (.getfield 9, 3) := by decide +kernel
theorem dX1_startOver_4 : decode cX1_startOver 4 = .ok (.iconst 0, 1) := by decide +kernel
theorem dX1_startOver_5 : decode cX1_startOver 5 = .ok (.invokestatic 35, 3) := by decide +kernel
theorem dX1_startOver_8 : decode cX1_startOver 8 = .ok (.aload_n 0, 1) := by decide +kernel
theorem dX1_startOver_9 : decode cX1_startOver 9 = .ok (.getfield 15, 3) := by decide +kernel
theorem dX1_startOver_12 : decode cX1_startOver 12 = .ok (.iconst 0, 1) := by decide +kernel
theorem dX1_startOver_13 : decode cX1_startOver 13 = .ok (.invokestatic 35, 3) := by decide +kernel
theorem dX1_startOver_16 : decode cX1_startOver 16 = .ok (.aload_n 0, 1) := by decide +kernel
theorem dX1_startOver_17 : decode cX1_startOver 17 = .ok (.getfield 18, 3) := by decide +kernel
theorem dX1_startOver_20 : decode cX1_startOver 20 = .ok (.iconst 0, 1) := by decide +kernel
theorem dX1_startOver_21 : decode cX1_startOver 21 = .ok (.invokestatic 35, 3) := by decide +kernel
theorem dX1_startOver_24 : decode cX1_startOver 24 = .ok (.aload_n 0, 1) := by decide +kernel
theorem dX1_startOver_25 : decode cX1_startOver 25 = .ok (.getfield 21, 3) := by decide +kernel
theorem dX1_startOver_28 : decode cX1_startOver 28 = .ok (.lconst 0, 1) := by decide +kernel
theorem dX1_startOver_29 : decode cX1_startOver 29 = .ok (.invokestatic 41, 3) := by decide +kernel
theorem dX1_startOver_32 : decode cX1_startOver 32 = .ok (.aload_n 0, 1) := by decide +kernel
theorem dX1_startOver_33 : decode cX1_startOver 33 = .ok (.iload_n 1, 1) := by decide +kernel
theorem dX1_startOver_34 : decode cX1_startOver 34 = .ok (.putfield 25, 3) := by decide +kernel
theorem dX1_startOver_37 : decode cX1_startOver 37 = .ok (.aload_n 0, 1) := by decide +kernel
theorem dX1_startOver_38 : decode cX1_startOver 38 = .ok (.iload_n 2, 1) := by decide +kernel
theorem dX1_startOver_39 : decode cX1_startOver 39 = .ok (.putfield 29, 3) := by decide +kernel
theorem dX1_startOver_42 : decode cX1_startOver 42 = .ok (.aload_n 0, 1) := by decide +kernel
theorem dX1_startOver_43 : decode cX1_startOver 43 = .ok (.iconst (-1), 1) := by decide +kernel
theorem dX1_startOver_44 : decode cX1_startOver 44 = .ok (.putfield 32, 3) := by decide +kernel
theorem dX1_startOver_47 : decode cX1_startOver 47 = .ok (.return_, 1) := by decide +kernel
theorem dX1_pages_0 : decode cX1_pages 0 = .ok (.aload_n 0, 1) := by decide +kernel
theorem dX1_pages_1 : decode cX1_pages 1 = .ok (.getfield 25, 3) := by decide +kernel
theorem dX1_pages_4 : decode cX1_pages 4 = .ok (.ireturn, 1) := by decide +kernel
theorem dX1_words_0 : decode cX1_words 0 = .ok (.aload_n 0, 1) := by decide +kernel
theorem dX1_words_1 : decode cX1_words 1 = .ok (.getfield 29, 3) := by decide +kernel
theorem dX1_words_4 : decode cX1_words 4 = .ok (.ireturn, 1) := by decide +kernel
theorem dX1_openPage_0 : decode cX1_openPage 0 = .ok (.aload_n 0, 1) := by decide +kernel
theorem dX1_openPage_1 : decode cX1_openPage 1 = .ok (.getfield 32, 3) := by decide +kernel
theorem dX1_openPage_4 : decode cX1_openPage 4 = .ok (.ireturn, 1) := by decide +kernel
theorem dX1_setOpenPage_0 : decode cX1_setOpenPage 0 = .ok (.aload_n 0, 1) := by decide +kernel
theorem dX1_setOpenPage_1 : decode cX1_setOpenPage 1 = .ok (.iload_n 1, 1) := by decide +kernel
theorem dX1_setOpenPage_2 : decode cX1_setOpenPage 2 = .ok (.putfield 32, 3) := by decide +kernel
theorem dX1_setOpenPage_5 : decode cX1_setOpenPage 5 = .ok (.return_, 1) := by decide +kernel
theorem dX1_isPage_0 : decode cX1_isPage 0 = .ok (.iload_n 1, 1) := by decide +kernel
theorem dX1_isPage_1 : decode cX1_isPage 1 = .ok (.ifCond .lt 15, 3) := by decide +kernel
theorem dX1_isPage_4 : decode cX1_isPage 4 = .ok (.iload_n 1, 1) := by decide +kernel
theorem dX1_isPage_5 : decode cX1_isPage 5 = .ok (.aload_n 0, 1) := by decide +kernel
theorem dX1_isPage_6 : decode cX1_isPage 6 = .ok (.getfield 25, 3) := by decide +kernel
theorem dX1_isPage_9 : decode cX1_isPage 9 = .ok (.if_icmp .ge 7, 3) := by decide +kernel
theorem dX1_isPage_12 : decode cX1_isPage 12 = .ok (.iconst 1, 1) := by decide +kernel
theorem dX1_isPage_13 : decode cX1_isPage 13 = .ok (.goto 4, 3) := by decide +kernel
theorem dX1_isPage_16 : decode cX1_isPage 16 = .ok (.iconst 0, 1) := by decide +kernel
theorem dX1_isPage_17 : decode cX1_isPage 17 = .ok (.ireturn, 1) := by decide +kernel
theorem dX1_isAddress_0 : decode cX1_isAddress 0 = .ok (.iload_n 1, 1) := by decide +kernel
theorem dX1_isAddress_1 : decode cX1_isAddress 1 = .ok (.ifCond .lt 20, 3) := by decide +kernel
theorem dX1_isAddress_4 : decode cX1_isAddress 4 = .ok (.iload_n 1, 1) := by decide +kernel
theorem dX1_isAddress_5 : decode cX1_isAddress 5 = .ok (.aload_n 0, 1) := by decide +kernel
theorem dX1_isAddress_6 : decode cX1_isAddress 6 = .ok (.getfield 25, 3) := by decide +kernel
theorem dX1_isAddress_9 : decode cX1_isAddress 9 = .ok (.aload_n 0, 1) := by decide +kernel
theorem dX1_isAddress_10 : decode cX1_isAddress 10 = .ok (.getfield 29, 3) := by decide +kernel
theorem dX1_isAddress_13 : decode cX1_isAddress 13 = .ok (.imul, 1) := by decide +kernel
theorem dX1_isAddress_14 : decode cX1_isAddress 14 = .ok (.if_icmp .ge 7, 3) := by decide +kernel
theorem dX1_isAddress_17 : decode cX1_isAddress 17 = .ok (.iconst 1, 1) := by decide +kernel
theorem dX1_isAddress_18 : decode cX1_isAddress 18 = .ok (.goto 4, 3) := by decide +kernel
theorem dX1_isAddress_21 : decode cX1_isAddress 21 = .ok (.iconst 0, 1) := by decide +kernel
theorem dX1_isAddress_22 : decode cX1_isAddress 22 = .ok (.ireturn, 1) := by decide +kernel
theorem dX1_beginsAt_0 : decode cX1_beginsAt 0 = .ok (.aload_n 0, 1) := by decide +kernel
theorem dX1_beginsAt_1 : decode cX1_beginsAt 1 = .ok (.iload_n 1, 1) := by decide +kernel
theorem dX1_beginsAt_2 : decode cX1_beginsAt 2 = .ok (.invokevirtual 44, 3) := by decide +kernel
theorem dX1_beginsAt_5 : decode cX1_beginsAt 5 = .ok (.ifCond .eq 32, 3) := by decide +kernel
theorem dX1_beginsAt_8 : decode cX1_beginsAt 8 = .ok (.aload_n 0, 1) := by decide +kernel
theorem dX1_beginsAt_9 : decode cX1_beginsAt 9 = .ok (.getfield 21, 3) := by decide +kernel
theorem dX1_beginsAt_12 : decode cX1_beginsAt 12 = .ok (.iload_n 1, 1) := by decide +kernel
theorem dX1_beginsAt_13 : decode cX1_beginsAt 13 = .ok (.aload_n 0, 1) := by decide +kernel
theorem dX1_beginsAt_14 : decode cX1_beginsAt 14 = .ok (.getfield 29, 3) := by decide +kernel
theorem dX1_beginsAt_17 : decode cX1_beginsAt 17 = .ok (.idiv, 1) := by decide +kernel
theorem dX1_beginsAt_18 : decode cX1_beginsAt 18 = .ok (.laload, 1) := by decide +kernel
theorem dX1_beginsAt_19 : decode cX1_beginsAt 19 = .ok (.iload_n 1, 1) := by decide +kernel
theorem dX1_beginsAt_20 : decode cX1_beginsAt 20 = .ok (.aload_n 0, 1) := by decide +kernel
theorem dX1_beginsAt_21 : decode cX1_beginsAt 21 = .ok (.getfield 29, 3) := by decide +kernel
theorem dX1_beginsAt_24 : decode cX1_beginsAt 24 = .ok (.irem, 1) := by decide +kernel
theorem dX1_beginsAt_25 : decode cX1_beginsAt 25 = .ok (.lushr, 1) := by decide +kernel
theorem dX1_beginsAt_26 : decode cX1_beginsAt 26 = .ok (.lconst 1, 1) := by decide +kernel
theorem dX1_beginsAt_27 : decode cX1_beginsAt 27 = .ok (.land, 1) := by decide +kernel
theorem dX1_beginsAt_28 : decode cX1_beginsAt 28 = .ok (.lconst 0, 1) := by decide +kernel
theorem dX1_beginsAt_29 : decode cX1_beginsAt 29 = .ok (.lcmp, 1) := by decide +kernel
theorem dX1_beginsAt_30 : decode cX1_beginsAt 30 = .ok (.ifCond .eq 7, 3) := by decide +kernel
theorem dX1_beginsAt_33 : decode cX1_beginsAt 33 = .ok (.iconst 1, 1) := by decide +kernel
theorem dX1_beginsAt_34 : decode cX1_beginsAt 34 = .ok (.goto 4, 3) := by decide +kernel
theorem dX1_beginsAt_37 : decode cX1_beginsAt 37 = .ok (.iconst 0, 1) := by decide +kernel
theorem dX1_beginsAt_38 : decode cX1_beginsAt 38 = .ok (.ireturn, 1) := by decide +kernel
theorem dX1_addressOf_0 : decode cX1_addressOf 0 = .ok (.iload_n 1, 1) := by decide +kernel
theorem dX1_addressOf_1 : decode cX1_addressOf 1 = .ok (.aload_n 0, 1) := by decide +kernel
theorem dX1_addressOf_2 : decode cX1_addressOf 2 = .ok (.getfield 29, 3) := by decide +kernel
theorem dX1_addressOf_5 : decode cX1_addressOf 5 = .ok (.imul, 1) := by decide +kernel
theorem dX1_addressOf_6 : decode cX1_addressOf 6 = .ok (.iload_n 2, 1) := by decide +kernel
theorem dX1_addressOf_7 : decode cX1_addressOf 7 = .ok (.iadd, 1) := by decide +kernel
theorem dX1_addressOf_8 : decode cX1_addressOf 8 = .ok (.ireturn, 1) := by decide +kernel
theorem dX1_pageOf_0 : decode cX1_pageOf 0 = .ok (.iload_n 1, 1) := by decide +kernel
theorem dX1_pageOf_1 : decode cX1_pageOf 1 = .ok (.aload_n 0, 1) := by decide +kernel
theorem dX1_pageOf_2 : decode cX1_pageOf 2 = .ok (.getfield 29, 3) := by decide +kernel
theorem dX1_pageOf_5 : decode cX1_pageOf 5 = .ok (.idiv, 1) := by decide +kernel
theorem dX1_pageOf_6 : decode cX1_pageOf 6 = .ok (.ireturn, 1) := by decide +kernel
theorem dX1_kindOf_0 : decode cX1_kindOf 0 = .ok (.aload_n 0, 1) := by decide +kernel
theorem dX1_kindOf_1 : decode cX1_kindOf 1 = .ok (.getfield 15, 3) := by decide +kernel
theorem dX1_kindOf_4 : decode cX1_kindOf 4 = .ok (.iload_n 1, 1) := by decide +kernel
theorem dX1_kindOf_5 : decode cX1_kindOf 5 = .ok (.iaload, 1) := by decide +kernel
theorem dX1_kindOf_6 : decode cX1_kindOf 6 = .ok (.ireturn, 1) := by decide +kernel
theorem dX1_isFree_0 : decode cX1_isFree 0 = .ok (.aload_n 0, 1) := by decide +kernel
theorem dX1_isFree_1 : decode cX1_isFree 1 = .ok (.getfield 15, 3) := by decide +kernel
theorem dX1_isFree_4 : decode cX1_isFree 4 = .ok (.iload_n 1, 1) := by decide +kernel
theorem dX1_isFree_5 : decode cX1_isFree 5 = .ok (.iaload, 1) := by decide +kernel
theorem dX1_isFree_6 : decode cX1_isFree 6 = .ok (.ifCond .ne 7, 3) := by decide +kernel
theorem dX1_isFree_9 : decode cX1_isFree 9 = .ok (.iconst 1, 1) := by decide +kernel
theorem dX1_isFree_10 : decode cX1_isFree 10 = .ok (.goto 4, 3) := by decide +kernel
theorem dX1_isFree_13 : decode cX1_isFree 13 = .ok (.iconst 0, 1) := by decide +kernel
theorem dX1_isFree_14 : decode cX1_isFree 14 = .ok (.ireturn, 1) := by decide +kernel
theorem dX1_filledOf_0 : decode cX1_filledOf 0 = .ok (.aload_n 0, 1) := by decide +kernel
theorem dX1_filledOf_1 : decode cX1_filledOf 1 = .ok (.getfield 18, 3) := by decide +kernel
theorem dX1_filledOf_4 : decode cX1_filledOf 4 = .ok (.iload_n 1, 1) := by decide +kernel
theorem dX1_filledOf_5 : decode cX1_filledOf 5 = .ok (.iaload, 1) := by decide +kernel
theorem dX1_filledOf_6 : decode cX1_filledOf 6 = .ok (.ireturn, 1) := by decide +kernel
theorem dX1_objectsOf_0 : decode cX1_objectsOf 0 = .ok (.aload_n 0, 1) := by decide +kernel
theorem dX1_objectsOf_1 : decode cX1_objectsOf 1 = .ok (.getfield 21, 3) := by decide +kernel
theorem dX1_objectsOf_4 : decode cX1_objectsOf 4 = .ok (.iload_n 1, 1) := by decide +kernel
theorem dX1_objectsOf_5 : decode cX1_objectsOf 5 = .ok (.laload, 1) := by decide +kernel
theorem dX1_objectsOf_6 : decode cX1_objectsOf 6 = .ok (.invokestatic 48, 3) := by decide +kernel
theorem dX1_objectsOf_9 : decode cX1_objectsOf 9 = .ok (.ireturn, 1) := by decide +kernel
theorem dX1_usedPages_0 : decode cX1_usedPages 0 = .ok (.iconst 0, 1) := by decide +kernel
theorem dX1_usedPages_1 : decode cX1_usedPages 1 = .ok (.istore_n 1, 1) := by decide +kernel
theorem dX1_usedPages_2 : decode cX1_usedPages 2 = .ok (.iconst 0, 1) := by decide +kernel
theorem dX1_usedPages_3 : decode cX1_usedPages 3 = .ok (.istore_n 2, 1) := by decide +kernel
theorem dX1_usedPages_4 : decode cX1_usedPages 4 = .ok (.iload_n 2, 1) := by decide +kernel
theorem dX1_usedPages_5 : decode cX1_usedPages 5 = .ok (.aload_n 0, 1) := by decide +kernel
theorem dX1_usedPages_6 : decode cX1_usedPages 6 = .ok (.getfield 25, 3) := by decide +kernel
theorem dX1_usedPages_9 : decode cX1_usedPages 9 = .ok (.if_icmp .ge 21, 3) := by decide +kernel
theorem dX1_usedPages_12 : decode cX1_usedPages 12 = .ok (.aload_n 0, 1) := by decide +kernel
theorem dX1_usedPages_13 : decode cX1_usedPages 13 = .ok (.getfield 15, 3) := by decide +kernel
theorem dX1_usedPages_16 : decode cX1_usedPages 16 = .ok (.iload_n 2, 1) := by decide +kernel
theorem dX1_usedPages_17 : decode cX1_usedPages 17 = .ok (.iaload, 1) := by decide +kernel
theorem dX1_usedPages_18 : decode cX1_usedPages 18 = .ok (.ifCond .eq 6, 3) := by decide +kernel
theorem dX1_usedPages_21 : decode cX1_usedPages 21 = .ok (.iinc 1 1, 3) := by decide +kernel
theorem dX1_usedPages_24 : decode cX1_usedPages 24 = .ok (.iinc 2 1, 3) := by decide +kernel
theorem dX1_usedPages_27 : decode cX1_usedPages 27 = .ok (.goto (-23), 3) := by decide +kernel
theorem dX1_usedPages_30 : decode cX1_usedPages 30 = .ok (.iload_n 1, 1) := by decide +kernel
theorem dX1_usedPages_31 : decode cX1_usedPages 31 = .ok (.ireturn, 1) := by decide +kernel
theorem dX1_allObjects_0 : decode cX1_allObjects 0 = .ok (.iconst 0, 1) := by decide +kernel
theorem dX1_allObjects_1 : decode cX1_allObjects 1 = .ok (.istore_n 1, 1) := by decide +kernel
theorem dX1_allObjects_2 : decode cX1_allObjects 2 = .ok (.iconst 0, 1) := by decide +kernel
theorem dX1_allObjects_3 : decode cX1_allObjects 3 = .ok (.istore_n 2, 1) := by decide +kernel
theorem dX1_allObjects_4 : decode cX1_allObjects 4 = .ok (.iload_n 2, 1) := by decide +kernel
theorem dX1_allObjects_5 : decode cX1_allObjects 5 = .ok (.aload_n 0, 1) := by decide +kernel
theorem dX1_allObjects_6 : decode cX1_allObjects 6 = .ok (.getfield 25, 3) := by decide +kernel
theorem dX1_allObjects_9 : decode cX1_allObjects 9 = .ok (.if_icmp .ge 17, 3) := by decide +kernel
theorem dX1_allObjects_12 : decode cX1_allObjects 12 = .ok (.iload_n 1, 1) := by decide +kernel
theorem dX1_allObjects_13 : decode cX1_allObjects 13 = .ok (.aload_n 0, 1) := by decide +kernel
theorem dX1_allObjects_14 : decode cX1_allObjects 14 = .ok (.iload_n 2, 1) := by decide +kernel
theorem dX1_allObjects_15 : decode cX1_allObjects 15 = .ok (.invokevirtual 54, 3) := by decide +kernel
theorem dX1_allObjects_18 : decode cX1_allObjects 18 = .ok (.iadd, 1) := by decide +kernel
theorem dX1_allObjects_19 : decode cX1_allObjects 19 = .ok (.istore_n 1, 1) := by decide +kernel
theorem dX1_allObjects_20 : decode cX1_allObjects 20 = .ok (.iinc 2 1, 3) := by decide +kernel
theorem dX1_allObjects_23 : decode cX1_allObjects 23 = .ok (.goto (-19), 3) := by decide +kernel
theorem dX1_allObjects_26 : decode cX1_allObjects 26 = .ok (.iload_n 1, 1) := by decide +kernel
theorem dX1_allObjects_27 : decode cX1_allObjects 27 = .ok (.ireturn, 1) := by decide +kernel
theorem dX1_allFilled_0 : decode cX1_allFilled 0 = .ok (.iconst 0, 1) := by decide +kernel
theorem dX1_allFilled_1 : decode cX1_allFilled 1 = .ok (.istore_n 1, 1) := by decide +kernel
theorem dX1_allFilled_2 : decode cX1_allFilled 2 = .ok (.iconst 0, 1) := by decide +kernel
theorem dX1_allFilled_3 : decode cX1_allFilled 3 = .ok (.istore_n 2, 1) := by decide +kernel
theorem dX1_allFilled_4 : decode cX1_allFilled 4 = .ok (.iload_n 2, 1) := by decide +kernel
theorem dX1_allFilled_5 : decode cX1_allFilled 5 = .ok (.aload_n 0, 1) := by decide +kernel
theorem dX1_allFilled_6 : decode cX1_allFilled 6 = .ok (.getfield 25, 3) := by decide +kernel
theorem dX1_allFilled_9 : decode cX1_allFilled 9 = .ok (.if_icmp .ge 18, 3) := by decide +kernel
theorem dX1_allFilled_12 : decode cX1_allFilled 12 = .ok (.iload_n 1, 1) := by decide +kernel
theorem dX1_allFilled_13 : decode cX1_allFilled 13 = .ok (.aload_n 0, 1) := by decide +kernel
theorem dX1_allFilled_14 : decode cX1_allFilled 14 = .ok (.getfield 18, 3) := by decide +kernel
theorem dX1_allFilled_17 : decode cX1_allFilled 17 = .ok (.iload_n 2, 1) := by decide +kernel
theorem dX1_allFilled_18 : decode cX1_allFilled 18 = .ok (.iaload, 1) := by decide +kernel
theorem dX1_allFilled_19 : decode cX1_allFilled 19 = .ok (.iadd, 1) := by decide +kernel
theorem dX1_allFilled_20 : decode cX1_allFilled 20 = .ok (.istore_n 1, 1) := by decide +kernel
theorem dX1_allFilled_21 : decode cX1_allFilled 21 = .ok (.iinc 2 1, 3) := by decide +kernel
theorem dX1_allFilled_24 : decode cX1_allFilled 24 = .ok (.goto (-20), 3) := by decide +kernel
theorem dX1_allFilled_27 : decode cX1_allFilled 27 = .ok (.iload_n 1, 1) := by decide +kernel
theorem dX1_allFilled_28 : decode cX1_allFilled 28 = .ok (.ireturn, 1) := by decide +kernel
theorem dX1_wordAt_0 : decode cX1_wordAt 0 = .ok (.aload_n 0, 1) := by decide +kernel
theorem dX1_wordAt_1 : decode cX1_wordAt 1 = .ok (.getfield 9, 3) := by decide +kernel
theorem dX1_wordAt_4 : decode cX1_wordAt 4 = .ok (.iload_n 1, 1) := by decide +kernel
theorem dX1_wordAt_5 : decode cX1_wordAt 5 = .ok (.iaload, 1) := by decide +kernel
theorem dX1_wordAt_6 : decode cX1_wordAt 6 = .ok (.ireturn, 1) := by decide +kernel
theorem dX1_refsOf_0 : decode cX1_refsOf 0 = .ok (.aload_n 0, 1) := by decide +kernel
theorem dX1_refsOf_1 : decode cX1_refsOf 1 = .ok (.getfield 9, 3) := by decide +kernel
theorem dX1_refsOf_4 : decode cX1_refsOf 4 = .ok (.iload_n 1, 1) := by decide +kernel
theorem dX1_refsOf_5 : decode cX1_refsOf 5 = .ok (.iaload, 1) := by decide +kernel
theorem dX1_refsOf_6 : decode cX1_refsOf 6 = .ok (.sipush 256, 3) := by decide +kernel
theorem dX1_refsOf_9 : decode cX1_refsOf 9 = .ok (.idiv, 1) := by decide +kernel
theorem dX1_refsOf_10 : decode cX1_refsOf 10 = .ok (.ireturn, 1) := by decide +kernel
theorem dX1_dataOf_0 : decode cX1_dataOf 0 = .ok (.aload_n 0, 1) := by decide +kernel
theorem dX1_dataOf_1 : decode cX1_dataOf 1 = .ok (.getfield 9, 3) := by decide +kernel
theorem dX1_dataOf_4 : decode cX1_dataOf 4 = .ok (.iload_n 1, 1) := by decide +kernel
theorem dX1_dataOf_5 : decode cX1_dataOf 5 = .ok (.iaload, 1) := by decide +kernel
theorem dX1_dataOf_6 : decode cX1_dataOf 6 = .ok (.sipush 256, 3) := by decide +kernel
theorem dX1_dataOf_9 : decode cX1_dataOf 9 = .ok (.irem, 1) := by decide +kernel
theorem dX1_dataOf_10 : decode cX1_dataOf 10 = .ok (.ireturn, 1) := by decide +kernel
theorem dX1_sizeOf_0 : decode cX1_sizeOf 0 = .ok (.iconst 1, 1) := by decide +kernel
theorem dX1_sizeOf_1 : decode cX1_sizeOf 1 = .ok (.aload_n 0, 1) := by decide +kernel
theorem dX1_sizeOf_2 : decode cX1_sizeOf 2 = .ok (.iload_n 1, 1) := by decide +kernel
theorem dX1_sizeOf_3 : decode cX1_sizeOf 3 = .ok (.invokevirtual 58, 3) := by decide +kernel
theorem dX1_sizeOf_6 : decode cX1_sizeOf 6 = .ok (.iadd, 1) := by decide +kernel
theorem dX1_sizeOf_7 : decode cX1_sizeOf 7 = .ok (.aload_n 0, 1) := by decide +kernel
theorem dX1_sizeOf_8 : decode cX1_sizeOf 8 = .ok (.iload_n 1, 1) := by decide +kernel
theorem dX1_sizeOf_9 : decode cX1_sizeOf 9 = .ok (.invokevirtual 61, 3) := by decide +kernel
theorem dX1_sizeOf_12 : decode cX1_sizeOf 12 = .ok (.iadd, 1) := by decide +kernel
theorem dX1_sizeOf_13 : decode cX1_sizeOf 13 = .ok (.ireturn, 1) := by decide +kernel
theorem dX1_isLong_0 : decode cX1_isLong 0 = .ok (.aload_n 0, 1) := by decide +kernel
theorem dX1_isLong_1 : decode cX1_isLong 1 = .ok (.iload_n 1, 1) := by decide +kernel
theorem dX1_isLong_2 : decode cX1_isLong 2 = .ok (.invokevirtual 64, 3) := by decide +kernel
theorem dX1_isLong_5 : decode cX1_isLong 5 = .ok (.aload_n 0, 1) := by decide +kernel
theorem dX1_isLong_6 : decode cX1_isLong 6 = .ok (.getfield 29, 3) := by decide +kernel
theorem dX1_isLong_9 : decode cX1_isLong 9 = .ok (.if_icmp .le 7, 3) := by decide +kernel
theorem dX1_isLong_12 : decode cX1_isLong 12 = .ok (.iconst 1, 1) := by decide +kernel
theorem dX1_isLong_13 : decode cX1_isLong 13 = .ok (.goto 4, 3) := by decide +kernel
theorem dX1_isLong_16 : decode cX1_isLong 16 = .ok (.iconst 0, 1) := by decide +kernel
theorem dX1_isLong_17 : decode cX1_isLong 17 = .ok (.ireturn, 1) := by decide +kernel
theorem dX1_ref_0 : decode cX1_ref 0 = .ok (.aload_n 0, 1) := by decide +kernel
theorem dX1_ref_1 : decode cX1_ref 1 = .ok (.getfield 9, 3) := by decide +kernel
theorem dX1_ref_4 : decode cX1_ref 4 = .ok (.iload_n 1, 1) := by decide +kernel
theorem dX1_ref_5 : decode cX1_ref 5 = .ok (.iconst 1, 1) := by decide +kernel
theorem dX1_ref_6 : decode cX1_ref 6 = .ok (.iadd, 1) := by decide +kernel
theorem dX1_ref_7 : decode cX1_ref 7 = .ok (.iload_n 2, 1) := by decide +kernel
theorem dX1_ref_8 : decode cX1_ref 8 = .ok (.iadd, 1) := by decide +kernel
theorem dX1_ref_9 : decode cX1_ref 9 = .ok (.iaload, 1) := by decide +kernel
theorem dX1_ref_10 : decode cX1_ref 10 = .ok (.ireturn, 1) := by decide +kernel
theorem dX1_setRef_0 : decode cX1_setRef 0 = .ok (.aload_n 0, 1) := by decide +kernel
theorem dX1_setRef_1 : decode cX1_setRef 1 = .ok (.getfield 9, 3) := by decide +kernel
theorem dX1_setRef_4 : decode cX1_setRef 4 = .ok (.iload_n 1, 1) := by decide +kernel
theorem dX1_setRef_5 : decode cX1_setRef 5 = .ok (.iconst 1, 1) := by decide +kernel
theorem dX1_setRef_6 : decode cX1_setRef 6 = .ok (.iadd, 1) := by decide +kernel
theorem dX1_setRef_7 : decode cX1_setRef 7 = .ok (.iload_n 2, 1) := by decide +kernel
theorem dX1_setRef_8 : decode cX1_setRef 8 = .ok (.iadd, 1) := by decide +kernel
theorem dX1_setRef_9 : decode cX1_setRef 9 = .ok (.iload_n 3, 1) := by decide +kernel
theorem dX1_setRef_10 : decode cX1_setRef 10 = .ok (.iastore, 1) := by decide +kernel
theorem dX1_setRef_11 : decode cX1_setRef 11 = .ok (.return_, 1) := by decide +kernel
theorem dX1_swapData_0 : decode cX1_swapData 0 = .ok (.iload_n 1, 1) := by decide +kernel
theorem dX1_swapData_1 : decode cX1_swapData 1 = .ok (.iconst 1, 1) := by decide +kernel
theorem dX1_swapData_2 : decode cX1_swapData 2 = .ok (.iadd, 1) := by decide +kernel
theorem dX1_swapData_3 : decode cX1_swapData 3 = .ok (.aload_n 0, 1) := by decide +kernel
theorem dX1_swapData_4 : decode cX1_swapData 4 = .ok (.iload_n 1, 1) := by decide +kernel
theorem dX1_swapData_5 : decode cX1_swapData 5 = .ok (.invokevirtual 58, 3) := by decide +kernel
theorem dX1_swapData_8 : decode cX1_swapData 8 = .ok (.iadd, 1) := by decide +kernel
theorem dX1_swapData_9 : decode cX1_swapData 9 = .ok (.iload_n 2, 1) := by decide +kernel
theorem dX1_swapData_10 : decode cX1_swapData 10 = .ok (.iadd, 1) := by decide +kernel
theorem dX1_swapData_11 : decode cX1_swapData 11 = .ok (.istore 4, 2) := by decide +kernel
theorem dX1_swapData_13 : decode cX1_swapData 13 = .ok (.aload_n 0, 1) := by decide +kernel
theorem dX1_swapData_14 : decode cX1_swapData 14 = .ok (.getfield 9, 3) := by decide +kernel
theorem dX1_swapData_17 : decode cX1_swapData 17 = .ok (.iload 4, 2) := by decide +kernel
theorem dX1_swapData_19 : decode cX1_swapData 19 = .ok (.iaload, 1) := by decide +kernel
theorem dX1_swapData_20 : decode cX1_swapData 20 = .ok (.istore 5, 2) := by decide +kernel
theorem dX1_swapData_22 : decode cX1_swapData 22 = .ok (.aload_n 0, 1) := by decide +kernel
theorem dX1_swapData_23 : decode cX1_swapData 23 = .ok (.getfield 9, 3) := by decide +kernel
theorem dX1_swapData_26 : decode cX1_swapData 26 = .ok (.iload 4, 2) := by decide +kernel
theorem dX1_swapData_28 : decode cX1_swapData 28 = .ok (.iload_n 3, 1) := by decide +kernel
theorem dX1_swapData_29 : decode cX1_swapData 29 = .ok (.iastore, 1) := by decide +kernel
theorem dX1_swapData_30 : decode cX1_swapData 30 = .ok (.iload 5, 2) := by decide +kernel
theorem dX1_swapData_32 : decode cX1_swapData 32 = .ok (.ireturn, 1) := by decide +kernel
theorem dX1_firstPageWith_0 : decode cX1_firstPageWith 0 = .ok (.iload_n 1, 1) := by decide +kernel
theorem dX1_firstPageWith_1 : decode cX1_firstPageWith 1 = .ok (.istore_n 2, 1) := by decide +kernel
theorem dX1_firstPageWith_2 : decode cX1_firstPageWith 2 = .ok (.iload_n 2, 1) := by decide +kernel
theorem dX1_firstPageWith_3 : decode cX1_firstPageWith 3 = .ok (.ifCond .le 19, 3) := by decide +kernel
theorem dX1_firstPageWith_6 : decode cX1_firstPageWith 6 = .ok (.aload_n 0, 1) := by decide +kernel
theorem dX1_firstPageWith_7 : decode cX1_firstPageWith 7 = .ok (.getfield 15, 3) := by decide +kernel
theorem dX1_firstPageWith_10 : decode cX1_firstPageWith 10 = .ok (.iload_n 2, 1) := by decide +kernel
theorem dX1_firstPageWith_11 : decode cX1_firstPageWith 11 = .ok (.iaload, 1) := by decide +kernel
theorem dX1_firstPageWith_12 : decode cX1_firstPageWith 12 = .ok (.iconst 3, 1) := by decide +kernel
theorem dX1_firstPageWith_13 : decode cX1_firstPageWith 13 = .ok (.if_icmp .ne 9, 3) := by decide +kernel
theorem dX1_firstPageWith_16 : decode cX1_firstPageWith 16 = .ok (.iinc 2 (-1), 3) := by decide +kernel
theorem dX1_firstPageWith_19 : decode cX1_firstPageWith 19 = .ok (.goto (-17), 3) := by decide +kernel
theorem dX1_firstPageWith_22 : decode cX1_firstPageWith 22 = .ok (.iload_n 2, 1) := by decide +kernel
theorem dX1_firstPageWith_23 : decode cX1_firstPageWith 23 = .ok (.ireturn, 1) := by decide +kernel
theorem dX1_pageBehind_0 : decode cX1_pageBehind 0 = .ok (.iload_n 1, 1) := by decide +kernel
theorem dX1_pageBehind_1 : decode cX1_pageBehind 1 = .ok (.iconst 1, 1) := by decide +kernel
theorem dX1_pageBehind_2 : decode cX1_pageBehind 2 = .ok (.iadd, 1) := by decide +kernel
theorem dX1_pageBehind_3 : decode cX1_pageBehind 3 = .ok (.istore_n 2, 1) := by decide +kernel
theorem dX1_pageBehind_4 : decode cX1_pageBehind 4 = .ok (.iload_n 2, 1) := by decide +kernel
theorem dX1_pageBehind_5 : decode cX1_pageBehind 5 = .ok (.aload_n 0, 1) := by decide +kernel
theorem dX1_pageBehind_6 : decode cX1_pageBehind 6 = .ok (.getfield 25, 3) := by decide +kernel
theorem dX1_pageBehind_9 : decode cX1_pageBehind 9 = .ok (.if_icmp .ge 19, 3) := by decide +kernel
theorem dX1_pageBehind_12 : decode cX1_pageBehind 12 = .ok (.aload_n 0, 1) := by decide +kernel
theorem dX1_pageBehind_13 : decode cX1_pageBehind 13 = .ok (.getfield 15, 3) := by decide +kernel
theorem dX1_pageBehind_16 : decode cX1_pageBehind 16 = .ok (.iload_n 2, 1) := by decide +kernel
theorem dX1_pageBehind_17 : decode cX1_pageBehind 17 = .ok (.iaload, 1) := by decide +kernel
theorem dX1_pageBehind_18 : decode cX1_pageBehind 18 = .ok (.iconst 3, 1) := by decide +kernel
theorem dX1_pageBehind_19 : decode cX1_pageBehind 19 = .ok (.if_icmp .ne 9, 3) := by decide +kernel
theorem dX1_pageBehind_22 : decode cX1_pageBehind 22 = .ok (.iinc 2 1, 3) := by decide +kernel
theorem dX1_pageBehind_25 : decode cX1_pageBehind 25 = .ok (.goto (-21), 3) := by decide +kernel
theorem dX1_pageBehind_28 : decode cX1_pageBehind 28 = .ok (.iload_n 2, 1) := by decide +kernel
theorem dX1_pageBehind_29 : decode cX1_pageBehind 29 = .ok (.ireturn, 1) := by decide +kernel
theorem dX1_freePageFrom_0 : decode cX1_freePageFrom 0 = .ok (.iload_n 1, 1) := by decide +kernel
theorem dX1_freePageFrom_1 : decode cX1_freePageFrom 1 = .ok (.istore_n 2, 1) := by decide +kernel
theorem dX1_freePageFrom_2 : decode cX1_freePageFrom 2 = .ok (.iload_n 2, 1) := by decide +kernel
theorem dX1_freePageFrom_3 : decode cX1_freePageFrom 3 = .ok (.aload_n 0, 1) := by decide +kernel
theorem dX1_freePageFrom_4 : decode cX1_freePageFrom 4 = .ok (.getfield 25, 3) := by decide +kernel
theorem dX1_freePageFrom_7 : decode cX1_freePageFrom 7 = .ok (.if_icmp .ge 20, 3) := by decide +kernel
theorem dX1_freePageFrom_10 : decode cX1_freePageFrom 10 = .ok (.aload_n 0, 1) := by decide +kernel
theorem dX1_freePageFrom_11 : decode cX1_freePageFrom 11 = .ok (.getfield 15, 3) := by decide +kernel
theorem dX1_freePageFrom_14 : decode cX1_freePageFrom 14 = .ok (.iload_n 2, 1) := by decide +kernel
theorem dX1_freePageFrom_15 : decode cX1_freePageFrom 15 = .ok (.iaload, 1) := by decide +kernel
theorem dX1_freePageFrom_16 : decode cX1_freePageFrom 16 = .ok (.ifCond .ne 5, 3) := by decide +kernel
theorem dX1_freePageFrom_19 : decode cX1_freePageFrom 19 = .ok (.iload_n 2, 1) := by decide +kernel
theorem dX1_freePageFrom_20 : decode cX1_freePageFrom 20 = .ok (.ireturn, 1) := by decide +kernel
theorem dX1_freePageFrom_21 : decode cX1_freePageFrom 21 = .ok (.iinc 2 1, 3) := by decide +kernel
theorem dX1_freePageFrom_24 : decode cX1_freePageFrom 24 = .ok (.goto (-22), 3) := by decide +kernel
theorem dX1_freePageFrom_27 : decode cX1_freePageFrom 27 = .ok (.iconst (-1), 1) := by decide +kernel
theorem dX1_freePageFrom_28 : decode cX1_freePageFrom 28 = .ok (.ireturn, 1) := by decide +kernel
theorem dX1_roomFor_0 : decode cX1_roomFor 0 = .ok (.iload_n 1, 1) := by decide +kernel
theorem dX1_roomFor_1 : decode cX1_roomFor 1 = .ok (.aload_n 0, 1) := by decide +kernel
theorem dX1_roomFor_2 : decode cX1_roomFor 2 = .ok (.getfield 29, 3) := by decide +kernel
theorem dX1_roomFor_5 : decode cX1_roomFor 5 = .ok (.if_icmp .gt 11, 3) := by decide +kernel
theorem dX1_roomFor_8 : decode cX1_roomFor 8 = .ok (.aload_n 0, 1) := by decide +kernel
theorem dX1_roomFor_9 : decode cX1_roomFor 9 = .ok (.iload_n 1, 1) := by decide +kernel
theorem dX1_roomFor_10 : decode cX1_roomFor 10 = .ok (.invokevirtual 67, 3) := by decide +kernel
theorem dX1_roomFor_13 : decode cX1_roomFor 13 = .ok (.goto 8, 3) := by decide +kernel
theorem dX1_roomFor_16 : decode cX1_roomFor 16 = .ok (.aload_n 0, 1) := by decide +kernel
theorem dX1_roomFor_17 : decode cX1_roomFor 17 = .ok (.iload_n 1, 1) := by decide +kernel
theorem dX1_roomFor_18 : decode cX1_roomFor 18 = .ok (.invokevirtual 70, 3) := by decide +kernel
theorem dX1_roomFor_21 : decode cX1_roomFor 21 = .ok (.ireturn, 1) := by decide +kernel
theorem dX1_roomForSmall_0 : decode cX1_roomForSmall 0 = .ok (.aload_n 0, 1) := by decide +kernel
theorem dX1_roomForSmall_1 : decode cX1_roomForSmall 1 = .ok (.getfield 32, 3) := by decide +kernel
theorem dX1_roomForSmall_4 : decode cX1_roomForSmall 4 = .ok (.iconst (-1), 1) := by decide +kernel
theorem dX1_roomForSmall_5 : decode cX1_roomForSmall 5 = .ok (.if_icmp .eq 39, 3) := by decide +kernel
theorem dX1_roomForSmall_8 : decode cX1_roomForSmall 8 = .ok (.iload_n 1, 1) := by decide +kernel
theorem dX1_roomForSmall_9 : decode cX1_roomForSmall 9 = .ok (.aload_n 0, 1) := by decide +kernel
theorem dX1_roomForSmall_10 : decode cX1_roomForSmall 10 = .ok (.getfield 29, 3) := by decide +kernel
theorem dX1_roomForSmall_13 : decode cX1_roomForSmall 13 = .ok (.aload_n 0, 1) := by decide +kernel
theorem dX1_roomForSmall_14 : decode cX1_roomForSmall 14 = .ok (.getfield 18, 3) := by decide +kernel
theorem dX1_roomForSmall_17 : decode cX1_roomForSmall 17 = .ok (.aload_n 0, 1) := by decide +kernel
theorem dX1_roomForSmall_18 : decode cX1_roomForSmall 18 = .ok (.getfield 32, 3) := by decide +kernel
theorem dX1_roomForSmall_21 : decode cX1_roomForSmall 21 = .ok (.iaload, 1) := by decide +kernel
theorem dX1_roomForSmall_22 : decode cX1_roomForSmall 22 = .ok (.isub, 1) := by decide +kernel
theorem dX1_roomForSmall_23 : decode cX1_roomForSmall 23 = .ok (.if_icmp .gt 21, 3) := by decide +kernel
theorem dX1_roomForSmall_26 : decode cX1_roomForSmall 26 = .ok (.aload_n 0, 1) := by decide +kernel
theorem dX1_roomForSmall_27 : decode cX1_roomForSmall 27 = .ok (.aload_n 0, 1) := by decide +kernel
theorem dX1_roomForSmall_28 : decode cX1_roomForSmall 28 = .ok (.getfield 32, 3) := by decide +kernel
theorem dX1_roomForSmall_31 : decode cX1_roomForSmall 31 = .ok (.aload_n 0, 1) := by decide +kernel
theorem dX1_roomForSmall_32 : decode cX1_roomForSmall 32 = .ok (.getfield 18, 3) := by decide +kernel
theorem dX1_roomForSmall_35 : decode cX1_roomForSmall 35 = .ok (.aload_n 0, 1) := by decide +kernel
theorem dX1_roomForSmall_36 : decode cX1_roomForSmall 36 = .ok (.getfield 32, 3) := by decide +kernel
theorem dX1_roomForSmall_39 : decode cX1_roomForSmall 39 = .ok (.iaload, 1) := by decide +kernel
theorem dX1_roomForSmall_40 : decode cX1_roomForSmall 40 = .ok (.invokevirtual 73, 3) := by decide +kernel
theorem dX1_roomForSmall_43 : decode cX1_roomForSmall 43 = .ok (.ireturn, 1) := by decide +kernel
theorem dX1_roomForSmall_44 : decode cX1_roomForSmall 44 = .ok (.aload_n 0, 1) := by decide +kernel
theorem dX1_roomForSmall_45 : decode cX1_roomForSmall 45 = .ok (.iconst 1, 1) := by decide +kernel
theorem dX1_roomForSmall_46 : decode cX1_roomForSmall 46 = .ok (.invokevirtual 77, 3) := by decide +kernel
theorem dX1_roomForSmall_49 : decode cX1_roomForSmall 49 = .ok (.ifCond .eq 11, 3) := by decide +kernel
theorem dX1_roomForSmall_52 : decode cX1_roomForSmall 52 = .ok (.aload_n 0, 1) := by decide +kernel
theorem dX1_roomForSmall_53 : decode cX1_roomForSmall 53 = .ok (.iconst 0, 1) := by decide +kernel
theorem dX1_roomForSmall_54 : decode cX1_roomForSmall 54 = .ok (.invokevirtual 80, 3) := by decide +kernel
theorem dX1_roomForSmall_57 : decode cX1_roomForSmall 57 = .ok (.goto 4, 3) := by decide +kernel
theorem dX1_roomForSmall_60 : decode cX1_roomForSmall 60 = .ok (.iconst (-1), 1) := by decide +kernel
theorem dX1_roomForSmall_61 : decode cX1_roomForSmall 61 = .ok (.istore_n 2, 1) := by decide +kernel
theorem dX1_roomForSmall_62 : decode cX1_roomForSmall 62 = .ok (.iload_n 2, 1) := by decide +kernel
theorem dX1_roomForSmall_63 : decode cX1_roomForSmall 63 = .ok (.iconst (-1), 1) := by decide +kernel
theorem dX1_roomForSmall_64 : decode cX1_roomForSmall 64 = .ok (.if_icmp .ne 7, 3) := by decide +kernel
theorem dX1_roomForSmall_67 : decode cX1_roomForSmall 67 = .ok (.iconst (-1), 1) := by decide +kernel
theorem dX1_roomForSmall_68 : decode cX1_roomForSmall 68 = .ok (.goto 9, 3) := by decide +kernel
theorem dX1_roomForSmall_71 : decode cX1_roomForSmall 71 = .ok (.aload_n 0, 1) := by decide +kernel
theorem dX1_roomForSmall_72 : decode cX1_roomForSmall 72 = .ok (.iload_n 2, 1) := by decide +kernel
theorem dX1_roomForSmall_73 : decode cX1_roomForSmall 73 = .ok (.iconst 0, 1) := by decide +kernel
theorem dX1_roomForSmall_74 : decode cX1_roomForSmall 74 = .ok (.invokevirtual 73, 3) := by decide +kernel
theorem dX1_roomForSmall_77 : decode cX1_roomForSmall 77 = .ok (.ireturn, 1) := by decide +kernel
theorem dX1_roomForLong_0 : decode cX1_roomForLong 0 = .ok (.iload_n 1, 1) := by decide +kernel
theorem dX1_roomForLong_1 : decode cX1_roomForLong 1 = .ok (.aload_n 0, 1) := by decide +kernel
theorem dX1_roomForLong_2 : decode cX1_roomForLong 2 = .ok (.getfield 29, 3) := by decide +kernel
theorem dX1_roomForLong_5 : decode cX1_roomForLong 5 = .ok (.iadd, 1) := by decide +kernel
theorem dX1_roomForLong_6 : decode cX1_roomForLong 6 = .ok (.iconst 1, 1) := by decide +kernel
theorem dX1_roomForLong_7 : decode cX1_roomForLong 7 = .ok (.isub, 1) := by decide +kernel
theorem dX1_roomForLong_8 : decode cX1_roomForLong 8 = .ok (.aload_n 0, 1) := by decide +kernel
theorem dX1_roomForLong_9 : decode cX1_roomForLong 9 = .ok (.getfield 29, 3) := by decide +kernel
theorem dX1_roomForLong_12 : decode cX1_roomForLong 12 = .ok (.idiv, 1) := by decide +kernel
theorem dX1_roomForLong_13 : decode cX1_roomForLong 13 = .ok (.istore_n 2, 1) := by decide +kernel
theorem dX1_roomForLong_14 : decode cX1_roomForLong 14 = .ok (.aload_n 0, 1) := by decide +kernel
theorem dX1_roomForLong_15 : decode cX1_roomForLong 15 = .ok (.iload_n 2, 1) := by decide +kernel
theorem dX1_roomForLong_16 : decode cX1_roomForLong 16 = .ok (.invokevirtual 77, 3) := by decide +kernel
theorem dX1_roomForLong_19 : decode cX1_roomForLong 19 = .ok (.ifCond .eq 11, 3) := by decide +kernel
theorem dX1_roomForLong_22 : decode cX1_roomForLong 22 = .ok (.aload_n 0, 1) := by decide +kernel
theorem dX1_roomForLong_23 : decode cX1_roomForLong 23 = .ok (.iload_n 2, 1) := by decide +kernel
theorem dX1_roomForLong_24 : decode cX1_roomForLong 24 = .ok (.invokevirtual 83, 3) := by decide +kernel
theorem dX1_roomForLong_27 : decode cX1_roomForLong 27 = .ok (.goto 4, 3) := by decide +kernel
theorem dX1_roomForLong_30 : decode cX1_roomForLong 30 = .ok (.iconst (-1), 1) := by decide +kernel
theorem dX1_roomForLong_31 : decode cX1_roomForLong 31 = .ok (.istore_n 3, 1) := by decide +kernel
theorem dX1_roomForLong_32 : decode cX1_roomForLong 32 = .ok (.iload_n 3, 1) := by decide +kernel
theorem dX1_roomForLong_33 : decode cX1_roomForLong 33 = .ok (.iconst (-1), 1) := by decide +kernel
theorem dX1_roomForLong_34 : decode cX1_roomForLong 34 = .ok (.if_icmp .ne 7, 3) := by decide +kernel
theorem dX1_roomForLong_37 : decode cX1_roomForLong 37 = .ok (.iconst (-1), 1) := by decide +kernel
theorem dX1_roomForLong_38 : decode cX1_roomForLong 38 = .ok (.goto 9, 3) := by decide +kernel
theorem dX1_roomForLong_41 : decode cX1_roomForLong 41 = .ok (.aload_n 0, 1) := by decide +kernel
theorem dX1_roomForLong_42 : decode cX1_roomForLong 42 = .ok (.iload_n 3, 1) := by decide +kernel
theorem dX1_roomForLong_43 : decode cX1_roomForLong 43 = .ok (.iconst 0, 1) := by decide +kernel
theorem dX1_roomForLong_44 : decode cX1_roomForLong 44 = .ok (.invokevirtual 73, 3) := by decide +kernel
theorem dX1_roomForLong_47 : decode cX1_roomForLong 47 = .ok (.ireturn, 1) := by decide +kernel
theorem dX1_mayTake_0 : decode cX1_mayTake 0 = .ok (.aload_n 0, 1) := by decide +kernel
theorem dX1_mayTake_1 : decode cX1_mayTake 1 = .ok (.invokevirtual 86, 3) := by decide +kernel
theorem dX1_mayTake_4 : decode cX1_mayTake 4 = .ok (.iload_n 1, 1) := by decide +kernel
theorem dX1_mayTake_5 : decode cX1_mayTake 5 = .ok (.iadd, 1) := by decide +kernel
theorem dX1_mayTake_6 : decode cX1_mayTake 6 = .ok (.aload_n 0, 1) := by decide +kernel
theorem dX1_mayTake_7 : decode cX1_mayTake 7 = .ok (.getfield 25, 3) := by decide +kernel
theorem dX1_mayTake_10 : decode cX1_mayTake 10 = .ok (.iconst 2, 1) := by decide +kernel
theorem dX1_mayTake_11 : decode cX1_mayTake 11 = .ok (.idiv, 1) := by decide +kernel
theorem dX1_mayTake_12 : decode cX1_mayTake 12 = .ok (.if_icmp .gt 7, 3) := by decide +kernel
theorem dX1_mayTake_15 : decode cX1_mayTake 15 = .ok (.iconst 1, 1) := by decide +kernel
theorem dX1_mayTake_16 : decode cX1_mayTake 16 = .ok (.goto 4, 3) := by decide +kernel
theorem dX1_mayTake_19 : decode cX1_mayTake 19 = .ok (.iconst 0, 1) := by decide +kernel
theorem dX1_mayTake_20 : decode cX1_mayTake 20 = .ok (.ireturn, 1) := by decide +kernel
theorem dX1_freeRow_0 : decode cX1_freeRow 0 = .ok (.iconst 0, 1) := by decide +kernel
theorem dX1_freeRow_1 : decode cX1_freeRow 1 = .ok (.istore_n 2, 1) := by decide +kernel
theorem dX1_freeRow_2 : decode cX1_freeRow 2 = .ok (.iconst 0, 1) := by decide +kernel
theorem dX1_freeRow_3 : decode cX1_freeRow 3 = .ok (.istore_n 3, 1) := by decide +kernel
theorem dX1_freeRow_4 : decode cX1_freeRow 4 = .ok (.iload_n 3, 1) := by decide +kernel
theorem dX1_freeRow_5 : decode cX1_freeRow 5 = .ok (.aload_n 0, 1) := by decide +kernel
theorem dX1_freeRow_6 : decode cX1_freeRow 6 = .ok (.getfield 25, 3) := by decide +kernel
theorem dX1_freeRow_9 : decode cX1_freeRow 9 = .ok (.if_icmp .ge 37, 3) := by decide +kernel
theorem dX1_freeRow_12 : decode cX1_freeRow 12 = .ok (.aload_n 0, 1) := by decide +kernel
theorem dX1_freeRow_13 : decode cX1_freeRow 13 = .ok (.getfield 15, 3) := by decide +kernel
theorem dX1_freeRow_16 : decode cX1_freeRow 16 = .ok (.iload_n 3, 1) := by decide +kernel
theorem dX1_freeRow_17 : decode cX1_freeRow 17 = .ok (.iaload, 1) := by decide +kernel
theorem dX1_freeRow_18 : decode cX1_freeRow 18 = .ok (.ifCond .ne 9, 3) := by decide +kernel
theorem dX1_freeRow_21 : decode cX1_freeRow 21 = .ok (.iload_n 2, 1) := by decide +kernel
theorem dX1_freeRow_22 : decode cX1_freeRow 22 = .ok (.iconst 1, 1) := by decide +kernel
theorem dX1_freeRow_23 : decode cX1_freeRow 23 = .ok (.iadd, 1) := by decide +kernel
theorem dX1_freeRow_24 : decode cX1_freeRow 24 = .ok (.goto 4, 3) := by decide +kernel
theorem dX1_freeRow_27 : decode cX1_freeRow 27 = .ok (.iconst 0, 1) := by decide +kernel
theorem dX1_freeRow_28 : decode cX1_freeRow 28 = .ok (.istore_n 2, 1) := by decide +kernel
theorem dX1_freeRow_29 : decode cX1_freeRow 29 = .ok (.iload_n 2, 1) := by decide +kernel
theorem dX1_freeRow_30 : decode cX1_freeRow 30 = .ok (.iload_n 1, 1) := by decide +kernel
theorem dX1_freeRow_31 : decode cX1_freeRow 31 = .ok (.if_icmp .ne 9, 3) := by decide +kernel
theorem dX1_freeRow_34 : decode cX1_freeRow 34 = .ok (.iload_n 3, 1) := by decide +kernel
theorem dX1_freeRow_35 : decode cX1_freeRow 35 = .ok (.iload_n 1, 1) := by decide +kernel
theorem dX1_freeRow_36 : decode cX1_freeRow 36 = .ok (.isub, 1) := by decide +kernel
theorem dX1_freeRow_37 : decode cX1_freeRow 37 = .ok (.iconst 1, 1) := by decide +kernel
theorem dX1_freeRow_38 : decode cX1_freeRow 38 = .ok (.iadd, 1) := by decide +kernel
theorem dX1_freeRow_39 : decode cX1_freeRow 39 = .ok (.ireturn, 1) := by decide +kernel
theorem dX1_freeRow_40 : decode cX1_freeRow 40 = .ok (.iinc 3 1, 3) := by decide +kernel
theorem dX1_freeRow_43 : decode cX1_freeRow 43 = .ok (.goto (-39), 3) := by decide +kernel
theorem dX1_freeRow_46 : decode cX1_freeRow 46 = .ok (.iconst (-1), 1) := by decide +kernel
theorem dX1_freeRow_47 : decode cX1_freeRow 47 = .ok (.ireturn, 1) := by decide +kernel
theorem dX1_putNew_0 : decode cX1_putNew 0 = .ok (.iconst 1, 1) := by decide +kernel
theorem dX1_putNew_1 : decode cX1_putNew 1 = .ok (.iload_n 2, 1) := by decide +kernel
theorem dX1_putNew_2 : decode cX1_putNew 2 = .ok (.iadd, 1) := by decide +kernel
theorem dX1_putNew_3 : decode cX1_putNew 3 = .ok (.iload_n 3, 1) := by decide +kernel
theorem dX1_putNew_4 : decode cX1_putNew 4 = .ok (.iadd, 1) := by decide +kernel
theorem dX1_putNew_5 : decode cX1_putNew 5 = .ok (.istore 4, 2) := by decide +kernel
theorem dX1_putNew_7 : decode cX1_putNew 7 = .ok (.iload 4, 2) := by decide +kernel
theorem dX1_putNew_9 : decode cX1_putNew 9 = .ok (.aload_n 0, 1) := by decide +kernel
theorem dX1_putNew_10 : decode cX1_putNew 10 = .ok (.getfield 29, 3) := by decide +kernel
theorem dX1_putNew_13 : decode cX1_putNew 13 = .ok (.if_icmp .gt 22, 3) := by decide +kernel
theorem dX1_putNew_16 : decode cX1_putNew 16 = .ok (.aload_n 0, 1) := by decide +kernel
theorem dX1_putNew_17 : decode cX1_putNew 17 = .ok (.iload_n 1, 1) := by decide +kernel
theorem dX1_putNew_18 : decode cX1_putNew 18 = .ok (.iload 4, 2) := by decide +kernel
theorem dX1_putNew_20 : decode cX1_putNew 20 = .ok (.invokevirtual 90, 3) := by decide +kernel
theorem dX1_putNew_23 : decode cX1_putNew 23 = .ok (.aload_n 0, 1) := by decide +kernel
theorem dX1_putNew_24 : decode cX1_putNew 24 = .ok (.aload_n 0, 1) := by decide +kernel
theorem dX1_putNew_25 : decode cX1_putNew 25 = .ok (.iload_n 1, 1) := by decide +kernel
theorem dX1_putNew_26 : decode cX1_putNew 26 = .ok (.invokevirtual 94, 3) := by decide +kernel
theorem dX1_putNew_29 : decode cX1_putNew 29 = .ok (.putfield 32, 3) := by decide +kernel
theorem dX1_putNew_32 : decode cX1_putNew 32 = .ok (.goto 14, 3) := by decide +kernel
theorem dX1_putNew_35 : decode cX1_putNew 35 = .ok (.aload_n 0, 1) := by decide +kernel
theorem dX1_putNew_36 : decode cX1_putNew 36 = .ok (.aload_n 0, 1) := by decide +kernel
theorem dX1_putNew_37 : decode cX1_putNew 37 = .ok (.iload_n 1, 1) := by decide +kernel
theorem dX1_putNew_38 : decode cX1_putNew 38 = .ok (.invokevirtual 94, 3) := by decide +kernel
theorem dX1_putNew_41 : decode cX1_putNew 41 = .ok (.iload 4, 2) := by decide +kernel
theorem dX1_putNew_43 : decode cX1_putNew 43 = .ok (.invokevirtual 97, 3) := by decide +kernel
theorem dX1_putNew_46 : decode cX1_putNew 46 = .ok (.aload_n 0, 1) := by decide +kernel
theorem dX1_putNew_47 : decode cX1_putNew 47 = .ok (.getfield 9, 3) := by decide +kernel
theorem dX1_putNew_50 : decode cX1_putNew 50 = .ok (.iload_n 1, 1) := by decide +kernel
theorem dX1_putNew_51 : decode cX1_putNew 51 = .ok (.sipush 256, 3) := by decide +kernel
theorem dX1_putNew_54 : decode cX1_putNew 54 = .ok (.iload_n 2, 1) := by decide +kernel
theorem dX1_putNew_55 : decode cX1_putNew 55 = .ok (.imul, 1) := by decide +kernel
theorem dX1_putNew_56 : decode cX1_putNew 56 = .ok (.iload_n 3, 1) := by decide +kernel
theorem dX1_putNew_57 : decode cX1_putNew 57 = .ok (.iadd, 1) := by decide +kernel
theorem dX1_putNew_58 : decode cX1_putNew 58 = .ok (.iastore, 1) := by decide +kernel
theorem dX1_putNew_59 : decode cX1_putNew 59 = .ok (.iconst 0, 1) := by decide +kernel
theorem dX1_putNew_60 : decode cX1_putNew 60 = .ok (.istore 5, 2) := by decide +kernel
theorem dX1_putNew_62 : decode cX1_putNew 62 = .ok (.iload 5, 2) := by decide +kernel
theorem dX1_putNew_64 : decode cX1_putNew 64 = .ok (.iload_n 2, 1) := by decide +kernel
theorem dX1_putNew_65 : decode cX1_putNew 65 = .ok (.if_icmp .ge 17, 3) := by decide +kernel
theorem dX1_putNew_68 : decode cX1_putNew 68 = .ok (.aload_n 0, 1) := by decide +kernel
theorem dX1_putNew_69 : decode cX1_putNew 69 = .ok (.iload_n 1, 1) := by decide +kernel
theorem dX1_putNew_70 : decode cX1_putNew 70 = .ok (.iload 5, 2) := by decide +kernel
theorem dX1_putNew_72 : decode cX1_putNew 72 = .ok (.iconst (-1), 1) := by decide +kernel
theorem dX1_putNew_73 : decode cX1_putNew 73 = .ok (.invokevirtual 100, 3) := by decide +kernel
theorem dX1_putNew_76 : decode cX1_putNew 76 = .ok (.iinc 5 1, 3) := by decide +kernel
theorem dX1_putNew_79 : decode cX1_putNew 79 = .ok (.goto (-17), 3) := by decide +kernel
theorem dX1_putNew_82 : decode cX1_putNew 82 = .ok (.return_, 1) := by decide +kernel
theorem dX1_copySmall_0 : decode cX1_copySmall 0 = .ok (.aload_n 0, 1) := by decide +kernel
theorem dX1_copySmall_1 : decode cX1_copySmall 1 = .ok (.iload_n 1, 1) := by decide +kernel
theorem dX1_copySmall_2 : decode cX1_copySmall 2 = .ok (.invokevirtual 64, 3) := by decide +kernel
theorem dX1_copySmall_5 : decode cX1_copySmall 5 = .ok (.istore_n 3, 1) := by decide +kernel
theorem dX1_copySmall_6 : decode cX1_copySmall 6 = .ok (.aload_n 0, 1) := by decide +kernel
theorem dX1_copySmall_7 : decode cX1_copySmall 7 = .ok (.iload_n 2, 1) := by decide +kernel
theorem dX1_copySmall_8 : decode cX1_copySmall 8 = .ok (.iload_n 3, 1) := by decide +kernel
theorem dX1_copySmall_9 : decode cX1_copySmall 9 = .ok (.invokevirtual 90, 3) := by decide +kernel
theorem dX1_copySmall_12 : decode cX1_copySmall 12 = .ok (.aload_n 0, 1) := by decide +kernel
theorem dX1_copySmall_13 : decode cX1_copySmall 13 = .ok (.getfield 9, 3) := by decide +kernel
theorem dX1_copySmall_16 : decode cX1_copySmall 16 = .ok (.iload_n 1, 1) := by decide +kernel
theorem dX1_copySmall_17 : decode cX1_copySmall 17 = .ok (.aload_n 0, 1) := by decide +kernel
theorem dX1_copySmall_18 : decode cX1_copySmall 18 = .ok (.getfield 9, 3) := by decide +kernel
theorem dX1_copySmall_21 : decode cX1_copySmall 21 = .ok (.iload_n 2, 1) := by decide +kernel
theorem dX1_copySmall_22 : decode cX1_copySmall 22 = .ok (.iload_n 3, 1) := by decide +kernel
theorem dX1_copySmall_23 : decode cX1_copySmall 23 = .ok (.invokestatic 104, 3) := by decide +kernel
theorem dX1_copySmall_26 : decode cX1_copySmall 26 = .ok (.return_, 1) := by decide +kernel
theorem dX1_enterSmall_0 : decode cX1_enterSmall 0 = .ok (.aload_n 0, 1) := by decide +kernel
theorem dX1_enterSmall_1 : decode cX1_enterSmall 1 = .ok (.iload_n 1, 1) := by decide +kernel
theorem dX1_enterSmall_2 : decode cX1_enterSmall 2 = .ok (.invokevirtual 94, 3) := by decide +kernel
theorem dX1_enterSmall_5 : decode cX1_enterSmall 5 = .ok (.istore_n 3, 1) := by decide +kernel
theorem dX1_enterSmall_6 : decode cX1_enterSmall 6 = .ok (.aload_n 0, 1) := by decide +kernel
theorem dX1_enterSmall_7 : decode cX1_enterSmall 7 = .ok (.getfield 15, 3) := by decide +kernel
theorem dX1_enterSmall_10 : decode cX1_enterSmall 10 = .ok (.iload_n 3, 1) := by decide +kernel
theorem dX1_enterSmall_11 : decode cX1_enterSmall 11 = .ok (.iconst 1, 1) := by decide +kernel
theorem dX1_enterSmall_12 : decode cX1_enterSmall 12 = .ok (.iastore, 1) := by decide +kernel
theorem dX1_enterSmall_13 : decode cX1_enterSmall 13 = .ok (.aload_n 0, 1) := by decide +kernel
theorem dX1_enterSmall_14 : decode cX1_enterSmall 14 = .ok (.getfield 18, 3) := by decide +kernel
theorem dX1_enterSmall_17 : decode cX1_enterSmall 17 = .ok (.iload_n 3, 1) := by decide +kernel
theorem dX1_enterSmall_18 : decode cX1_enterSmall 18 = .ok (.dup2, 1) := by decide +kernel
theorem dX1_enterSmall_19 : decode cX1_enterSmall 19 = .ok (.iaload, 1) := by decide +kernel
theorem dX1_enterSmall_20 : decode cX1_enterSmall 20 = .ok (.iload_n 2, 1) := by decide +kernel
theorem dX1_enterSmall_21 : decode cX1_enterSmall 21 = .ok (.iadd, 1) := by decide +kernel
theorem dX1_enterSmall_22 : decode cX1_enterSmall 22 = .ok (.iastore, 1) := by decide +kernel
theorem dX1_enterSmall_23 : decode cX1_enterSmall 23 = .ok (.aload_n 0, 1) := by decide +kernel
theorem dX1_enterSmall_24 : decode cX1_enterSmall 24 = .ok (.getfield 21, 3) := by decide +kernel
theorem dX1_enterSmall_27 : decode cX1_enterSmall 27 = .ok (.iload_n 3, 1) := by decide +kernel
theorem dX1_enterSmall_28 : decode cX1_enterSmall 28 = .ok (.dup2, 1) := by decide +kernel
theorem dX1_enterSmall_29 : decode cX1_enterSmall 29 = .ok (.laload, 1) := by decide +kernel
theorem dX1_enterSmall_30 : decode cX1_enterSmall 30 = .ok (.lconst 1, 1) := by decide +kernel
theorem dX1_enterSmall_31 : decode cX1_enterSmall 31 = .ok (.iload_n 1, 1) := by decide +kernel
theorem dX1_enterSmall_32 : decode cX1_enterSmall 32 = .ok (.aload_n 0, 1) := by decide +kernel
theorem dX1_enterSmall_33 : decode cX1_enterSmall 33 = .ok (.getfield 29, 3) := by decide +kernel
theorem dX1_enterSmall_36 : decode cX1_enterSmall 36 = .ok (.irem, 1) := by decide +kernel
theorem dX1_enterSmall_37 : decode cX1_enterSmall 37 = .ok (.lshl, 1) := by decide +kernel
theorem dX1_enterSmall_38 : decode cX1_enterSmall 38 = .ok (.lor, 1) := by decide +kernel
theorem dX1_enterSmall_39 : decode cX1_enterSmall 39 = .ok (.lastore, 1) := by decide +kernel
theorem dX1_enterSmall_40 : decode cX1_enterSmall 40 = .ok (.return_, 1) := by decide +kernel
theorem dX1_enterLong_0 : decode cX1_enterLong 0 = .ok (.iload_n 2, 1) := by decide +kernel
theorem dX1_enterLong_1 : decode cX1_enterLong 1 = .ok (.istore_n 3, 1) := by decide +kernel
theorem dX1_enterLong_2 : decode cX1_enterLong 2 = .ok (.iload_n 1, 1) := by decide +kernel
theorem dX1_enterLong_3 : decode cX1_enterLong 3 = .ok (.istore 4, 2) := by decide +kernel
theorem dX1_enterLong_5 : decode cX1_enterLong 5 = .ok (.iload 4, 2) := by decide +kernel
theorem dX1_enterLong_7 : decode cX1_enterLong 7 = .ok (.aload_n 0, 1) := by decide +kernel
theorem dX1_enterLong_8 : decode cX1_enterLong 8 = .ok (.getfield 25, 3) := by decide +kernel
theorem dX1_enterLong_11 : decode cX1_enterLong 11 = .ok (.if_icmp .ge 53, 3) := by decide +kernel
theorem dX1_enterLong_14 : decode cX1_enterLong 14 = .ok (.iload_n 3, 1) := by decide +kernel
theorem dX1_enterLong_15 : decode cX1_enterLong 15 = .ok (.ifCond .le 49, 3) := by decide +kernel
theorem dX1_enterLong_18 : decode cX1_enterLong 18 = .ok (.aload_n 0, 1) := by decide +kernel
theorem dX1_enterLong_19 : decode cX1_enterLong 19 = .ok (.getfield 15, 3) := by decide +kernel
theorem dX1_enterLong_22 : decode cX1_enterLong 22 = .ok (.iload 4, 2) := by decide +kernel
theorem dX1_enterLong_24 : decode cX1_enterLong 24 = .ok (.iload 4, 2) := by decide +kernel
theorem dX1_enterLong_26 : decode cX1_enterLong 26 = .ok (.iload_n 1, 1) := by decide +kernel
theorem dX1_enterLong_27 : decode cX1_enterLong 27 = .ok (.if_icmp .ne 7, 3) := by decide +kernel
theorem dX1_enterLong_30 : decode cX1_enterLong 30 = .ok (.iconst 2, 1) := by decide +kernel
theorem dX1_enterLong_31 : decode cX1_enterLong 31 = .ok (.goto 4, 3) := by decide +kernel
theorem dX1_enterLong_34 : decode cX1_enterLong 34 = .ok (.iconst 3, 1) := by decide +kernel
theorem dX1_enterLong_35 : decode cX1_enterLong 35 = .ok (.iastore, 1) := by decide +kernel
theorem dX1_enterLong_36 : decode cX1_enterLong 36 = .ok (.aload_n 0, 1) := by decide +kernel
theorem dX1_enterLong_37 : decode cX1_enterLong 37 = .ok (.getfield 18, 3) := by decide +kernel
theorem dX1_enterLong_40 : decode cX1_enterLong 40 = .ok (.iload 4, 2) := by decide +kernel
theorem dX1_enterLong_42 : decode cX1_enterLong 42 = .ok (.iload_n 3, 1) := by decide +kernel
theorem dX1_enterLong_43 : decode cX1_enterLong 43 = .ok (.aload_n 0, 1) := by decide +kernel
theorem dX1_enterLong_44 : decode cX1_enterLong 44 = .ok (.getfield 29, 3) := by decide +kernel
theorem dX1_enterLong_47 : decode cX1_enterLong 47 = .ok (.invokestatic 110, 3) := by decide +kernel
theorem dX1_enterLong_50 : decode cX1_enterLong 50 = .ok (.iastore, 1) := by decide +kernel
theorem dX1_enterLong_51 : decode cX1_enterLong 51 = .ok (.iload_n 3, 1) := by decide +kernel
theorem dX1_enterLong_52 : decode cX1_enterLong 52 = .ok (.aload_n 0, 1) := by decide +kernel
theorem dX1_enterLong_53 : decode cX1_enterLong 53 = .ok (.getfield 29, 3) := by decide +kernel
theorem dX1_enterLong_56 : decode cX1_enterLong 56 = .ok (.isub, 1) := by decide +kernel
theorem dX1_enterLong_57 : decode cX1_enterLong 57 = .ok (.istore_n 3, 1) := by decide +kernel
theorem dX1_enterLong_58 : decode cX1_enterLong 58 = .ok (.iinc 4 1, 3) := by decide +kernel
theorem dX1_enterLong_61 : decode cX1_enterLong 61 = .ok (.goto (-56), 3) := by decide +kernel
theorem dX1_enterLong_64 : decode cX1_enterLong 64 = .ok (.aload_n 0, 1) := by decide +kernel
theorem dX1_enterLong_65 : decode cX1_enterLong 65 = .ok (.getfield 21, 3) := by decide +kernel
theorem dX1_enterLong_68 : decode cX1_enterLong 68 = .ok (.iload_n 1, 1) := by decide +kernel
theorem dX1_enterLong_69 : decode cX1_enterLong 69 = .ok (.lconst 1, 1) := by decide +kernel
theorem dX1_enterLong_70 : decode cX1_enterLong 70 = .ok (.lastore, 1) := by decide +kernel
theorem dX1_enterLong_71 : decode cX1_enterLong 71 = .ok (.return_, 1) := by decide +kernel
theorem dX1_freePagesBut_0 : decode cX1_freePagesBut 0 = .ok (.iconst 0, 1) := by decide +kernel
theorem dX1_freePagesBut_1 : decode cX1_freePagesBut 1 = .ok (.istore_n 2, 1) := by decide +kernel
theorem dX1_freePagesBut_2 : decode cX1_freePagesBut 2 = .ok (.iconst 0, 1) := by decide +kernel
theorem dX1_freePagesBut_3 : decode cX1_freePagesBut 3 = .ok (.istore_n 3, 1) := by decide +kernel
theorem dX1_freePagesBut_4 : decode cX1_freePagesBut 4 = .ok (.iload_n 3, 1) := by decide +kernel
theorem dX1_freePagesBut_5 : decode cX1_freePagesBut 5 = .ok (.aload_n 0, 1) := by decide +kernel
theorem dX1_freePagesBut_6 : decode cX1_freePagesBut 6 = .ok (.getfield 25, 3) := by decide +kernel
theorem dX1_freePagesBut_9 : decode cX1_freePagesBut 9 = .ok (.if_icmp .ge 32, 3) := by decide +kernel
theorem dX1_freePagesBut_12 : decode cX1_freePagesBut 12 = .ok (.aload_n 0, 1) := by decide +kernel
theorem dX1_freePagesBut_13 : decode cX1_freePagesBut 13 = .ok (.getfield 15, 3) := by decide +kernel
theorem dX1_freePagesBut_16 : decode cX1_freePagesBut 16 = .ok (.iload_n 3, 1) := by decide +kernel
theorem dX1_freePagesBut_17 : decode cX1_freePagesBut 17 = .ok (.iaload, 1) := by decide +kernel
theorem dX1_freePagesBut_18 : decode cX1_freePagesBut 18 = .ok (.ifCond .eq 17, 3) := by decide +kernel
theorem dX1_freePagesBut_21 : decode cX1_freePagesBut 21 = .ok (.aload_n 1, 1) := by decide +kernel
theorem dX1_freePagesBut_22 : decode cX1_freePagesBut 22 = .ok (.iload_n 3, 1) := by decide +kernel
theorem dX1_freePagesBut_23 : decode cX1_freePagesBut 23 = .ok (.baload, 1) := by decide +kernel
theorem dX1_freePagesBut_24 : decode cX1_freePagesBut 24 = .ok (.ifCond .ne 11, 3) := by decide +kernel
theorem dX1_freePagesBut_27 : decode cX1_freePagesBut 27 = .ok (.aload_n 0, 1) := by decide +kernel
theorem dX1_freePagesBut_28 : decode cX1_freePagesBut 28 = .ok (.iload_n 3, 1) := by decide +kernel
theorem dX1_freePagesBut_29 : decode cX1_freePagesBut 29 = .ok (.invokevirtual 115, 3) := by decide +kernel
theorem dX1_freePagesBut_32 : decode cX1_freePagesBut 32 = .ok (.iinc 2 1, 3) := by decide +kernel
theorem dX1_freePagesBut_35 : decode cX1_freePagesBut 35 = .ok (.iinc 3 1, 3) := by decide +kernel
theorem dX1_freePagesBut_38 : decode cX1_freePagesBut 38 = .ok (.goto (-34), 3) := by decide +kernel
theorem dX1_freePagesBut_41 : decode cX1_freePagesBut 41 = .ok (.iload_n 2, 1) := by decide +kernel
theorem dX1_freePagesBut_42 : decode cX1_freePagesBut 42 = .ok (.ireturn, 1) := by decide +kernel
theorem dX1_freePage_0 : decode cX1_freePage 0 = .ok (.iconst 0, 1) := by decide +kernel
theorem dX1_freePage_1 : decode cX1_freePage 1 = .ok (.istore_n 2, 1) := by decide +kernel
theorem dX1_freePage_2 : decode cX1_freePage 2 = .ok (.iload_n 2, 1) := by decide +kernel
theorem dX1_freePage_3 : decode cX1_freePage 3 = .ok (.aload_n 0, 1) := by decide +kernel
theorem dX1_freePage_4 : decode cX1_freePage 4 = .ok (.getfield 29, 3) := by decide +kernel
theorem dX1_freePage_7 : decode cX1_freePage 7 = .ok (.if_icmp .ge 21, 3) := by decide +kernel
theorem dX1_freePage_10 : decode cX1_freePage 10 = .ok (.aload_n 0, 1) := by decide +kernel
theorem dX1_freePage_11 : decode cX1_freePage 11 = .ok (.getfield 9, 3) := by decide +kernel
theorem dX1_freePage_14 : decode cX1_freePage 14 = .ok (.aload_n 0, 1) := by decide +kernel
theorem dX1_freePage_15 : decode cX1_freePage 15 = .ok (.iload_n 1, 1) := by decide +kernel
theorem dX1_freePage_16 : decode cX1_freePage 16 = .ok (.iload_n 2, 1) := by decide +kernel
theorem dX1_freePage_17 : decode cX1_freePage 17 = .ok (.invokevirtual 73, 3) := by decide +kernel
theorem dX1_freePage_20 : decode cX1_freePage 20 = .ok (.iconst 0, 1) := by decide +kernel
theorem dX1_freePage_21 : decode cX1_freePage 21 = .ok (.iastore, 1) := by decide +kernel
theorem dX1_freePage_22 : decode cX1_freePage 22 = .ok (.iinc 2 1, 3) := by decide +kernel
theorem dX1_freePage_25 : decode cX1_freePage 25 = .ok (.goto (-23), 3) := by decide +kernel
theorem dX1_freePage_28 : decode cX1_freePage 28 = .ok (.aload_n 0, 1) := by decide +kernel
theorem dX1_freePage_29 : decode cX1_freePage 29 = .ok (.getfield 15, 3) := by decide +kernel
theorem dX1_freePage_32 : decode cX1_freePage 32 = .ok (.iload_n 1, 1) := by decide +kernel
theorem dX1_freePage_33 : decode cX1_freePage 33 = .ok (.iconst 0, 1) := by decide +kernel
theorem dX1_freePage_34 : decode cX1_freePage 34 = .ok (.iastore, 1) := by decide +kernel
theorem dX1_freePage_35 : decode cX1_freePage 35 = .ok (.aload_n 0, 1) := by decide +kernel
theorem dX1_freePage_36 : decode cX1_freePage 36 = .ok (.getfield 18, 3) := by decide +kernel
theorem dX1_freePage_39 : decode cX1_freePage 39 = .ok (.iload_n 1, 1) := by decide +kernel
theorem dX1_freePage_40 : decode cX1_freePage 40 = .ok (.iconst 0, 1) := by decide +kernel
theorem dX1_freePage_41 : decode cX1_freePage 41 = .ok (.iastore, 1) := by decide +kernel
theorem dX1_freePage_42 : decode cX1_freePage 42 = .ok (.aload_n 0, 1) := by decide +kernel
theorem dX1_freePage_43 : decode cX1_freePage 43 = .ok (.getfield 21, 3) := by decide +kernel
theorem dX1_freePage_46 : decode cX1_freePage 46 = .ok (.iload_n 1, 1) := by decide +kernel
theorem dX1_freePage_47 : decode cX1_freePage 47 = .ok (.lconst 0, 1) := by decide +kernel
theorem dX1_freePage_48 : decode cX1_freePage 48 = .ok (.lastore, 1) := by decide +kernel
theorem dX1_freePage_49 : decode cX1_freePage 49 = .ok (.return_, 1) := by decide +kernel
theorem dX2_init_0 : decode cX2_init 0 = .ok (.aload_n 0, 1) := by decide +kernel
theorem dX2_init_1 : decode cX2_init 1 = .ok (.invokespecial 1, 3) := by decide +kernel
theorem dX2_init_4 : decode cX2_init 4 = .ok (.aload_n 0, 1) := by decide +kernel
theorem dX2_init_5 : decode cX2_init 5 = .ok (.new 7, 3) := by decide +kernel
theorem dX2_init_8 : decode cX2_init 8 = .ok (.dup, 1) := by decide +kernel
theorem dX2_init_9 : decode cX2_init 9 = .ok (.invokespecial 9, 3) := by decide +kernel
theorem dX2_init_12 : decode cX2_init 12 = .ok (.putfield 10, 3) := by decide +kernel
theorem dX2_init_15 : decode cX2_init 15 = .ok (.aload_n 0, 1) := by decide +kernel
theorem dX2_init_16 : decode cX2_init 16 = .ok (.new 16, 3) := by decide +kernel
theorem dX2_init_19 : decode cX2_init 19 = .ok (.dup, 1) := by decide +kernel
theorem dX2_init_20 : decode cX2_init 20 = .ok (.aload_n 0, 1) := by decide +kernel
theorem dX2_init_21 : decode cX2_init 21 = .ok (.getfield 10, 3) := by decide +kernel
theorem dX2_init_24 : decode cX2_init 24 = .ok (.invokespecial 18, 3) := by decide +kernel
theorem dX2_init_27 : decode cX2_init 27 = .ok (.putfield 21, 3) := by decide +kernel
theorem dX2_init_30 : decode cX2_init 30 = .ok (.aload_n 0, 1) := by decide +kernel
theorem dX2_init_31 : decode cX2_init 31 = .ok (.bipush 32, 2) := by decide +kernel
theorem dX2_init_33 : decode cX2_init 33 = .ok (.newarray .int, 2) := by decide +kernel
theorem dX2_init_35 : decode cX2_init 35 = .ok (.putfield 25, 3) := by decide +kernel
theorem dX2_init_38 : decode cX2_init 38 = .ok (.aload_n 0, 1) := by decide +kernel
theorem dX2_init_39 : decode cX2_init 39 = .ok (.bipush 32, 2) := by decide +kernel
theorem dX2_init_41 : decode cX2_init 41 = .ok (.newarray .int, 2) := by decide +kernel
theorem dX2_init_43 : decode cX2_init 43 = .ok (.putfield 29, 3) := by decide +kernel
theorem dX2_init_46 : decode cX2_init 46 = .ok (.aload_n 0, 1) := by decide +kernel
theorem dX2_init_47 : decode cX2_init 47 = .ok (.bipush 16, 2) := by decide +kernel
theorem dX2_init_49 : decode cX2_init 49 = .ok (.bipush 32, 2) := by decide +kernel
theorem dX2_init_51 : decode cX2_init 51 = .ok (.invokevirtual 32, 3) := by decide +kernel
theorem dX2_init_54 : decode cX2_init 54 = .ok (.return_, 1) := by decide +kernel
theorem dX2_format_0 : decode cX2_format 0 = .ok (.iload_n 1, 1) := by decide +kernel
theorem dX2_format_1 : decode cX2_format 1 = .ok (.iconst 4, 1) := by decide +kernel
theorem dX2_format_2 : decode cX2_format 2 = .ok (.if_icmp .lt 9, 3) := by decide +kernel
theorem dX2_format_5 : decode cX2_format 5 = .ok (.iload_n 1, 1) := by decide +kernel
theorem dX2_format_6 : decode cX2_format 6 = .ok (.bipush 64, 2) := by decide +kernel
theorem dX2_format_8 : decode cX2_format 8 = .ok (.if_icmp .le 13, 3) := by decide +kernel
theorem dX2_format_11 : decode cX2_format 11 = .ok (.new 36, 3) := by decide +kernel
theorem dX2_format_14 : decode cX2_format 14 = .ok (.dup, 1) := by decide +kernel
theorem dX2_format_15 : decode cX2_format 15 = .ok (.ldc 38, 2) := by decide +kernel
theorem dX2_format_17 : decode cX2_format 17 = .ok (.invokespecial 40, 3) := by decide +kernel
theorem dX2_format_20 : decode cX2_format 20 = .ok (.athrow, 1) := by decide +kernel
theorem dX2_format_21 : decode cX2_format 21 = .ok (.iload_n 2, 1) := by decide +kernel
theorem dX2_format_22 : decode cX2_format 22 = .ok (.bipush 8, 2) := by decide +kernel
theorem dX2_format_24 : decode cX2_format 24 = .ok (.if_icmp .lt 9, 3) := by decide +kernel
theorem dX2_format_27 : decode cX2_format 27 = .ok (.iload_n 2, 1) := by decide +kernel
theorem dX2_format_28 : decode cX2_format 28 = .ok (.bipush 64, 2) := by decide +kernel
theorem dX2_format_30 : decode cX2_format 30 = .ok (.if_icmp .le 13, 3) := by decide +kernel
theorem dX2_format_33 : decode cX2_format 33 = .ok (.new 36, 3) := by decide +kernel
theorem dX2_format_36 : decode cX2_format 36 = .ok (.dup, 1) := by decide +kernel
theorem dX2_format_37 : decode cX2_format 37 = .ok (.ldc 43, 2) := by decide +kernel
theorem dX2_format_39 : decode cX2_format 39 = .ok (.invokespecial 40, 3) := by decide +kernel
theorem dX2_format_42 : decode cX2_format 42 = .ok (.athrow, 1) := by decide +kernel
theorem dX2_format_43 : decode cX2_format 43 = .ok (.aload_n 0, 1) := by decide +kernel
theorem dX2_format_44 : decode cX2_format 44 = .ok (.iload_n 1, 1) := by decide +kernel
theorem dX2_format_45 : decode cX2_format 45 = .ok (.iload_n 2, 1) := by decide +kernel
theorem dX2_format_46 : decode cX2_format 46 = .ok (.invokevirtual 32, 3) := by decide +kernel
theorem dX2_format_49 : decode cX2_format 49 = .ok (.return_, 1) := by decide +kernel
theorem dX2_make_0 : decode cX2_make 0 = .ok (.iload_n 1, 1) := by decide +kernel
theorem dX2_make_1 : decode cX2_make 1 = .ok (.invokestatic 45, 3) := by decide +kernel
theorem dX2_make_4 : decode cX2_make 4 = .ok (.iload_n 2, 1) := by decide +kernel
theorem dX2_make_5 : decode cX2_make 5 = .ok (.ifCond .lt 9, 3) := by decide +kernel
theorem dX2_make_8 : decode cX2_make 8 = .ok (.iload_n 2, 1) := by decide +kernel
theorem dX2_make_9 : decode cX2_make 9 = .ok (.bipush 31, 2) := by decide +kernel
theorem dX2_make_11 : decode cX2_make 11 = .ok (.if_icmp .le 13, 3) := by decide +kernel
theorem dX2_make_14 : decode cX2_make 14 = .ok (.new 36, 3) := by decide +kernel
theorem dX2_make_17 : decode cX2_make 17 = .ok (.dup, 1) := by decide +kernel
theorem dX2_make_18 : decode cX2_make 18 = .ok (.ldc 49, 2) := by decide +kernel
theorem dX2_make_20 : decode cX2_make 20 = .ok (.invokespecial 40, 3) := by decide +kernel
theorem dX2_make_23 : decode cX2_make 23 = .ok (.athrow, 1) := by decide +kernel
theorem dX2_make_24 : decode cX2_make 24 = .ok (.iload_n 3, 1) := by decide +kernel
theorem dX2_make_25 : decode cX2_make 25 = .ok (.ifCond .lt 10, 3) := by decide +kernel
theorem dX2_make_28 : decode cX2_make 28 = .ok (.iload_n 3, 1) := by decide +kernel
theorem dX2_make_29 : decode cX2_make 29 = .ok (.sipush 200, 3) := by decide +kernel
theorem dX2_make_32 : decode cX2_make 32 = .ok (.if_icmp .le 13, 3) := by decide +kernel
theorem dX2_make_35 : decode cX2_make 35 = .ok (.new 36, 3) := by decide +kernel
theorem dX2_make_38 : decode cX2_make 38 = .ok (.dup, 1) := by decide +kernel
theorem dX2_make_39 : decode cX2_make 39 = .ok (.ldc 51, 2) := by decide +kernel
theorem dX2_make_41 : decode cX2_make 41 = .ok (.invokespecial 40, 3) := by decide +kernel
theorem dX2_make_44 : decode cX2_make 44 = .ok (.athrow, 1) := by decide +kernel
theorem dX2_make_45 : decode cX2_make 45 = .ok (.iconst 1, 1) := by decide +kernel
theorem dX2_make_46 : decode cX2_make 46 = .ok (.iload_n 2, 1) := by decide +kernel
theorem dX2_make_47 : decode cX2_make 47 = .ok (.iadd, 1) := by decide +kernel
theorem dX2_make_48 : decode cX2_make 48 = .ok (.iload_n 3, 1) := by decide +kernel
theorem dX2_make_49 : decode cX2_make 49 = .ok (.iadd, 1) := by decide +kernel
theorem dX2_make_50 : decode cX2_make 50 = .ok (.istore 4, 2) := by decide +kernel
theorem dX2_make_52 : decode cX2_make 52 = .ok (.aload_n 0, 1) := by decide +kernel
theorem dX2_make_53 : decode cX2_make 53 = .ok (.getfield 10, 3) := by decide +kernel
theorem dX2_make_56 : decode cX2_make 56 = .ok (.iload 4, 2) := by decide +kernel
theorem dX2_make_58 : decode cX2_make 58 = .ok (.invokevirtual 53, 3) := by decide +kernel
theorem dX2_make_61 : decode cX2_make 61 = .ok (.istore 5, 2) := by decide +kernel
theorem dX2_make_63 : decode cX2_make 63 = .ok (.iload 5, 2) := by decide +kernel
theorem dX2_make_65 : decode cX2_make 65 = .ok (.iconst (-1), 1) := by decide +kernel
theorem dX2_make_66 : decode cX2_make 66 = .ok (.if_icmp .ne 30, 3) := by decide +kernel
theorem dX2_make_69 : decode cX2_make 69 = .ok (.aload_n 0, 1) := by decide +kernel
theorem dX2_make_70 : decode cX2_make 70 = .ok (.getfield 21, 3) := by decide +kernel
theorem dX2_make_73 : decode cX2_make 73 = .ok (.aload_n 0, 1) := by decide +kernel
theorem dX2_make_74 : decode cX2_make 74 = .ok (.getfield 25, 3) := by decide +kernel
theorem dX2_make_77 : decode cX2_make 77 = .ok (.aload_n 0, 1) := by decide +kernel
theorem dX2_make_78 : decode cX2_make 78 = .ok (.getfield 29, 3) := by decide +kernel
theorem dX2_make_81 : decode cX2_make 81 = .ok (.invokevirtual 57, 3) := by decide +kernel
theorem dX2_make_84 : decode cX2_make 84 = .ok (.pop, 1) := by decide +kernel
theorem dX2_make_85 : decode cX2_make 85 = .ok (.aload_n 0, 1) := by decide +kernel
theorem dX2_make_86 : decode cX2_make 86 = .ok (.getfield 10, 3) := by decide +kernel
theorem dX2_make_89 : decode cX2_make 89 = .ok (.iload 4, 2) := by decide +kernel
theorem dX2_make_91 : decode cX2_make 91 = .ok (.invokevirtual 53, 3) := by decide +kernel
theorem dX2_make_94 : decode cX2_make 94 = .ok (.istore 5, 2) := by decide +kernel
theorem dX2_make_96 : decode cX2_make 96 = .ok (.iload 5, 2) := by decide +kernel
theorem dX2_make_98 : decode cX2_make 98 = .ok (.iconst (-1), 1) := by decide +kernel
theorem dX2_make_99 : decode cX2_make 99 = .ok (.if_icmp .ne 5, 3) := by decide +kernel
theorem dX2_make_102 : decode cX2_make 102 = .ok (.iconst 0, 1) := by decide +kernel
theorem dX2_make_103 : decode cX2_make 103 = .ok (.ireturn, 1) := by decide +kernel
theorem dX2_make_104 : decode cX2_make 104 = .ok (.aload_n 0, 1) := by decide +kernel
theorem dX2_make_105 : decode cX2_make 105 = .ok (.getfield 10, 3) := by decide +kernel
theorem dX2_make_108 : decode cX2_make 108 = .ok (.iload 5, 2) := by decide +kernel
theorem dX2_make_110 : decode cX2_make 110 = .ok (.iload_n 2, 1) := by decide +kernel
theorem dX2_make_111 : decode cX2_make 111 = .ok (.iload_n 3, 1) := by decide +kernel
theorem dX2_make_112 : decode cX2_make 112 = .ok (.invokevirtual 61, 3) := by decide +kernel
theorem dX2_make_115 : decode cX2_make 115 = .ok (.aload_n 0, 1) := by decide +kernel
theorem dX2_make_116 : decode cX2_make 116 = .ok (.getfield 25, 3) := by decide +kernel
theorem dX2_make_119 : decode cX2_make 119 = .ok (.iload_n 1, 1) := by decide +kernel
theorem dX2_make_120 : decode cX2_make 120 = .ok (.iload 5, 2) := by decide +kernel
theorem dX2_make_122 : decode cX2_make 122 = .ok (.iastore, 1) := by decide +kernel
theorem dX2_make_123 : decode cX2_make 123 = .ok (.iconst 1, 1) := by decide +kernel
theorem dX2_make_124 : decode cX2_make 124 = .ok (.ireturn, 1) := by decide +kernel
theorem dX2_copy_0 : decode cX2_copy 0 = .ok (.iload_n 1, 1) := by decide +kernel
theorem dX2_copy_1 : decode cX2_copy 1 = .ok (.invokestatic 45, 3) := by decide +kernel
theorem dX2_copy_4 : decode cX2_copy 4 = .ok (.iload_n 2, 1) := by decide +kernel
theorem dX2_copy_5 : decode cX2_copy 5 = .ok (.invokestatic 45, 3) := by decide +kernel
theorem dX2_copy_8 : decode cX2_copy 8 = .ok (.aload_n 0, 1) := by decide +kernel
theorem dX2_copy_9 : decode cX2_copy 9 = .ok (.getfield 25, 3) := by decide +kernel
theorem dX2_copy_12 : decode cX2_copy 12 = .ok (.iload_n 2, 1) := by decide +kernel
theorem dX2_copy_13 : decode cX2_copy 13 = .ok (.aload_n 0, 1) := by decide +kernel
theorem dX2_copy_14 : decode cX2_copy 14 = .ok (.getfield 25, 3) := by decide +kernel
theorem dX2_copy_17 : decode cX2_copy 17 = .ok (.iload_n 1, 1) := by decide +kernel
theorem dX2_copy_18 : decode cX2_copy 18 = .ok (.iaload, 1) := by decide +kernel
theorem dX2_copy_19 : decode cX2_copy 19 = .ok (.iastore, 1) := by decide +kernel
theorem dX2_copy_20 : decode cX2_copy 20 = .ok (.return_, 1) := by decide +kernel
theorem dX2_drop_0 : decode cX2_drop 0 = .ok (.iload_n 1, 1) := by decide +kernel
theorem dX2_drop_1 : decode cX2_drop 1 = .ok (.invokestatic 45, 3) := by decide +kernel
theorem dX2_drop_4 : decode cX2_drop 4 = .ok (.aload_n 0, 1) := by decide +kernel
theorem dX2_drop_5 : decode cX2_drop 5 = .ok (.getfield 25, 3) := by decide +kernel
theorem dX2_drop_8 : decode cX2_drop 8 = .ok (.iload_n 1, 1) := by decide +kernel
theorem dX2_drop_9 : decode cX2_drop 9 = .ok (.iconst (-1), 1) := by decide +kernel
theorem dX2_drop_10 : decode cX2_drop 10 = .ok (.iastore, 1) := by decide +kernel
theorem dX2_drop_11 : decode cX2_drop 11 = .ok (.return_, 1) := by decide +kernel
theorem dX2_link_0 : decode cX2_link 0 = .ok (.iload_n 1, 1) := by decide +kernel
theorem dX2_link_1 : decode cX2_link 1 = .ok (.invokestatic 45, 3) := by decide +kernel
theorem dX2_link_4 : decode cX2_link 4 = .ok (.iload_n 3, 1) := by decide +kernel
theorem dX2_link_5 : decode cX2_link 5 = .ok (.invokestatic 45, 3) := by decide +kernel
theorem dX2_link_8 : decode cX2_link 8 = .ok (.aload_n 0, 1) := by decide +kernel
theorem dX2_link_9 : decode cX2_link 9 = .ok (.iload_n 1, 1) := by decide +kernel
theorem dX2_link_10 : decode cX2_link 10 = .ok (.invokevirtual 65, 3) := by decide +kernel
theorem dX2_link_13 : decode cX2_link 13 = .ok (.aload_n 0, 1) := by decide +kernel
theorem dX2_link_14 : decode cX2_link 14 = .ok (.iload_n 1, 1) := by decide +kernel
theorem dX2_link_15 : decode cX2_link 15 = .ok (.iload_n 2, 1) := by decide +kernel
theorem dX2_link_16 : decode cX2_link 16 = .ok (.invokevirtual 68, 3) := by decide +kernel
theorem dX2_link_19 : decode cX2_link 19 = .ok (.aload_n 0, 1) := by decide +kernel
theorem dX2_link_20 : decode cX2_link 20 = .ok (.getfield 10, 3) := by decide +kernel
theorem dX2_link_23 : decode cX2_link 23 = .ok (.aload_n 0, 1) := by decide +kernel
theorem dX2_link_24 : decode cX2_link 24 = .ok (.getfield 25, 3) := by decide +kernel
theorem dX2_link_27 : decode cX2_link 27 = .ok (.iload_n 1, 1) := by decide +kernel
theorem dX2_link_28 : decode cX2_link 28 = .ok (.iaload, 1) := by decide +kernel
theorem dX2_link_29 : decode cX2_link 29 = .ok (.iload_n 2, 1) := by decide +kernel
theorem dX2_link_30 : decode cX2_link 30 = .ok (.aload_n 0, 1) := by decide +kernel
theorem dX2_link_31 : decode cX2_link 31 = .ok (.getfield 25, 3) := by decide +kernel
theorem dX2_link_34 : decode cX2_link 34 = .ok (.iload_n 3, 1) := by decide +kernel
theorem dX2_link_35 : decode cX2_link 35 = .ok (.iaload, 1) := by decide +kernel
theorem dX2_link_36 : decode cX2_link 36 = .ok (.invokevirtual 71, 3) := by decide +kernel
theorem dX2_link_39 : decode cX2_link 39 = .ok (.return_, 1) := by decide +kernel
theorem dX2_follow_0 : decode cX2_follow 0 = .ok (.iload_n 1, 1) := by decide +kernel
theorem dX2_follow_1 : decode cX2_follow 1 = .ok (.invokestatic 45, 3) := by decide +kernel
theorem dX2_follow_4 : decode cX2_follow 4 = .ok (.iload_n 3, 1) := by decide +kernel
theorem dX2_follow_5 : decode cX2_follow 5 = .ok (.invokestatic 45, 3) := by decide +kernel
theorem dX2_follow_8 : decode cX2_follow 8 = .ok (.aload_n 0, 1) := by decide +kernel
theorem dX2_follow_9 : decode cX2_follow 9 = .ok (.iload_n 1, 1) := by decide +kernel
theorem dX2_follow_10 : decode cX2_follow 10 = .ok (.invokevirtual 65, 3) := by decide +kernel
theorem dX2_follow_13 : decode cX2_follow 13 = .ok (.aload_n 0, 1) := by decide +kernel
theorem dX2_follow_14 : decode cX2_follow 14 = .ok (.iload_n 1, 1) := by decide +kernel
theorem dX2_follow_15 : decode cX2_follow 15 = .ok (.iload_n 2, 1) := by decide +kernel
theorem dX2_follow_16 : decode cX2_follow 16 = .ok (.invokevirtual 68, 3) := by decide +kernel
theorem dX2_follow_19 : decode cX2_follow 19 = .ok (.aload_n 0, 1) := by decide +kernel
theorem dX2_follow_20 : decode cX2_follow 20 = .ok (.getfield 25, 3) := by decide +kernel
theorem dX2_follow_23 : decode cX2_follow 23 = .ok (.iload_n 3, 1) := by decide +kernel
theorem dX2_follow_24 : decode cX2_follow 24 = .ok (.aload_n 0, 1) := by decide +kernel
theorem dX2_follow_25 : decode cX2_follow 25 = .ok (.getfield 10, 3) := by decide +kernel
theorem dX2_follow_28 : decode cX2_follow 28 = .ok (.aload_n 0, 1) := by decide +kernel
theorem dX2_follow_29 : decode cX2_follow 29 = .ok (.getfield 25, 3) := by decide +kernel
theorem dX2_follow_32 : decode cX2_follow 32 = .ok (.iload_n 1, 1) := by decide +kernel
theorem dX2_follow_33 : decode cX2_follow 33 = .ok (.iaload, 1) := by decide +kernel
theorem dX2_follow_34 : decode cX2_follow 34 = .ok (.iload_n 2, 1) := by decide +kernel
theorem dX2_follow_35 : decode cX2_follow 35 = .ok (.invokevirtual 74, 3) := by decide +kernel
theorem dX2_follow_38 : decode cX2_follow 38 = .ok (.iastore, 1) := by decide +kernel
theorem dX2_follow_39 : decode cX2_follow 39 = .ok (.aload_n 0, 1) := by decide +kernel
theorem dX2_follow_40 : decode cX2_follow 40 = .ok (.getfield 25, 3) := by decide +kernel
theorem dX2_follow_43 : decode cX2_follow 43 = .ok (.iload_n 3, 1) := by decide +kernel
theorem dX2_follow_44 : decode cX2_follow 44 = .ok (.iaload, 1) := by decide +kernel
theorem dX2_follow_45 : decode cX2_follow 45 = .ok (.ireturn, 1) := by decide +kernel
theorem dX2_set_0 : decode cX2_set 0 = .ok (.iload_n 1, 1) := by decide +kernel
theorem dX2_set_1 : decode cX2_set 1 = .ok (.invokestatic 45, 3) := by decide +kernel
theorem dX2_set_4 : decode cX2_set 4 = .ok (.aload_n 0, 1) := by decide +kernel
theorem dX2_set_5 : decode cX2_set 5 = .ok (.iload_n 1, 1) := by decide +kernel
theorem dX2_set_6 : decode cX2_set 6 = .ok (.invokevirtual 65, 3) := by decide +kernel
theorem dX2_set_9 : decode cX2_set 9 = .ok (.iload_n 2, 1) := by decide +kernel
theorem dX2_set_10 : decode cX2_set 10 = .ok (.ifCond .lt 20, 3) := by decide +kernel
theorem dX2_set_13 : decode cX2_set 13 = .ok (.iload_n 2, 1) := by decide +kernel
theorem dX2_set_14 : decode cX2_set 14 = .ok (.aload_n 0, 1) := by decide +kernel
theorem dX2_set_15 : decode cX2_set 15 = .ok (.getfield 10, 3) := by decide +kernel
theorem dX2_set_18 : decode cX2_set 18 = .ok (.aload_n 0, 1) := by decide +kernel
theorem dX2_set_19 : decode cX2_set 19 = .ok (.getfield 25, 3) := by decide +kernel
theorem dX2_set_22 : decode cX2_set 22 = .ok (.iload_n 1, 1) := by decide +kernel
theorem dX2_set_23 : decode cX2_set 23 = .ok (.iaload, 1) := by decide +kernel
theorem dX2_set_24 : decode cX2_set 24 = .ok (.invokevirtual 78, 3) := by decide +kernel
theorem dX2_set_27 : decode cX2_set 27 = .ok (.if_icmp .lt 13, 3) := by decide +kernel
theorem dX2_set_30 : decode cX2_set 30 = .ok (.new 81, 3) := by decide +kernel
theorem dX2_set_33 : decode cX2_set 33 = .ok (.dup, 1) := by decide +kernel
theorem dX2_set_34 : decode cX2_set 34 = .ok (.ldc 83, 2) := by decide +kernel
theorem dX2_set_36 : decode cX2_set 36 = .ok (.invokespecial 85, 3) := by decide +kernel
theorem dX2_set_39 : decode cX2_set 39 = .ok (.athrow, 1) := by decide +kernel
theorem dX2_set_40 : decode cX2_set 40 = .ok (.aload_n 0, 1) := by decide +kernel
theorem dX2_set_41 : decode cX2_set 41 = .ok (.getfield 10, 3) := by decide +kernel
theorem dX2_set_44 : decode cX2_set 44 = .ok (.aload_n 0, 1) := by decide +kernel
theorem dX2_set_45 : decode cX2_set 45 = .ok (.getfield 25, 3) := by decide +kernel
theorem dX2_set_48 : decode cX2_set 48 = .ok (.iload_n 1, 1) := by decide +kernel
theorem dX2_set_49 : decode cX2_set 49 = .ok (.iaload, 1) := by decide +kernel
theorem dX2_set_50 : decode cX2_set 50 = .ok (.iload_n 2, 1) := by decide +kernel
theorem dX2_set_51 : decode cX2_set 51 = .ok (.iload_n 3, 1) := by decide +kernel
theorem dX2_set_52 : decode cX2_set 52 = .ok (.invokevirtual 86, 3) := by decide +kernel
theorem dX2_set_55 : decode cX2_set 55 = .ok (.ireturn, 1) := by decide +kernel
theorem dX2_loose_0 : decode cX2_loose 0 = .ok (.iload_n 1, 1) := by decide +kernel
theorem dX2_loose_1 : decode cX2_loose 1 = .ok (.invokestatic 45, 3) := by decide +kernel
theorem dX2_loose_4 : decode cX2_loose 4 = .ok (.aload_n 0, 1) := by decide +kernel
theorem dX2_loose_5 : decode cX2_loose 5 = .ok (.getfield 29, 3) := by decide +kernel
theorem dX2_loose_8 : decode cX2_loose 8 = .ok (.iload_n 1, 1) := by decide +kernel
theorem dX2_loose_9 : decode cX2_loose 9 = .ok (.iaload, 1) := by decide +kernel
theorem dX2_loose_10 : decode cX2_loose 10 = .ok (.istore_n 3, 1) := by decide +kernel
theorem dX2_loose_11 : decode cX2_loose 11 = .ok (.aload_n 0, 1) := by decide +kernel
theorem dX2_loose_12 : decode cX2_loose 12 = .ok (.getfield 29, 3) := by decide +kernel
theorem dX2_loose_15 : decode cX2_loose 15 = .ok (.iload_n 1, 1) := by decide +kernel
theorem dX2_loose_16 : decode cX2_loose 16 = .ok (.iload_n 2, 1) := by decide +kernel
theorem dX2_loose_17 : decode cX2_loose 17 = .ok (.iastore, 1) := by decide +kernel
theorem dX2_loose_18 : decode cX2_loose 18 = .ok (.iload_n 3, 1) := by decide +kernel
theorem dX2_loose_19 : decode cX2_loose 19 = .ok (.ireturn, 1) := by decide +kernel
theorem dX2_take_0 : decode cX2_take 0 = .ok (.iload_n 2, 1) := by decide +kernel
theorem dX2_take_1 : decode cX2_take 1 = .ok (.invokestatic 45, 3) := by decide +kernel
theorem dX2_take_4 : decode cX2_take 4 = .ok (.aload_n 0, 1) := by decide +kernel
theorem dX2_take_5 : decode cX2_take 5 = .ok (.getfield 10, 3) := by decide +kernel
theorem dX2_take_8 : decode cX2_take 8 = .ok (.iload_n 1, 1) := by decide +kernel
theorem dX2_take_9 : decode cX2_take 9 = .ok (.invokevirtual 90, 3) := by decide +kernel
theorem dX2_take_12 : decode cX2_take 12 = .ok (.ifCond .ne 5, 3) := by decide +kernel
theorem dX2_take_15 : decode cX2_take 15 = .ok (.iconst 0, 1) := by decide +kernel
theorem dX2_take_16 : decode cX2_take 16 = .ok (.ireturn, 1) := by decide +kernel
theorem dX2_take_17 : decode cX2_take 17 = .ok (.aload_n 0, 1) := by decide +kernel
theorem dX2_take_18 : decode cX2_take 18 = .ok (.getfield 25, 3) := by decide +kernel
theorem dX2_take_21 : decode cX2_take 21 = .ok (.iload_n 2, 1) := by decide +kernel
theorem dX2_take_22 : decode cX2_take 22 = .ok (.iload_n 1, 1) := by decide +kernel
theorem dX2_take_23 : decode cX2_take 23 = .ok (.iastore, 1) := by decide +kernel
theorem dX2_take_24 : decode cX2_take 24 = .ok (.iconst 1, 1) := by decide +kernel
theorem dX2_take_25 : decode cX2_take 25 = .ok (.ireturn, 1) := by decide +kernel
theorem dX2_collect_0 : decode cX2_collect 0 = .ok (.aload_n 0, 1) := by decide +kernel
theorem dX2_collect_1 : decode cX2_collect 1 = .ok (.getfield 21, 3) := by decide +kernel
theorem dX2_collect_4 : decode cX2_collect 4 = .ok (.aload_n 0, 1) := by decide +kernel
theorem dX2_collect_5 : decode cX2_collect 5 = .ok (.getfield 25, 3) := by decide +kernel
theorem dX2_collect_8 : decode cX2_collect 8 = .ok (.aload_n 0, 1) := by decide +kernel
theorem dX2_collect_9 : decode cX2_collect 9 = .ok (.getfield 29, 3) := by decide +kernel
theorem dX2_collect_12 : decode cX2_collect 12 = .ok (.invokevirtual 57, 3) := by decide +kernel
theorem dX2_collect_15 : decode cX2_collect 15 = .ok (.ifCond .eq 13, 3) := by decide +kernel
theorem dX2_collect_18 : decode cX2_collect 18 = .ok (.aload_n 0, 1) := by decide +kernel
theorem dX2_collect_19 : decode cX2_collect 19 = .ok (.getfield 10, 3) := by decide +kernel
theorem dX2_collect_22 : decode cX2_collect 22 = .ok (.invokevirtual 94, 3) := by decide +kernel
theorem dX2_collect_25 : decode cX2_collect 25 = .ok (.goto 4, 3) := by decide +kernel
theorem dX2_collect_28 : decode cX2_collect 28 = .ok (.iconst (-1), 1) := by decide +kernel
theorem dX2_collect_29 : decode cX2_collect 29 = .ok (.ireturn, 1) := by decide +kernel
theorem dX2_root_0 : decode cX2_root 0 = .ok (.iload_n 1, 1) := by decide +kernel
theorem dX2_root_1 : decode cX2_root 1 = .ok (.invokestatic 98, 3) := by decide +kernel
theorem dX2_root_4 : decode cX2_root 4 = .ok (.ifCond .eq 12, 3) := by decide +kernel
theorem dX2_root_7 : decode cX2_root 7 = .ok (.aload_n 0, 1) := by decide +kernel
theorem dX2_root_8 : decode cX2_root 8 = .ok (.getfield 25, 3) := by decide +kernel
theorem dX2_root_11 : decode cX2_root 11 = .ok (.iload_n 1, 1) := by decide +kernel
theorem dX2_root_12 : decode cX2_root 12 = .ok (.iaload, 1) := by decide +kernel
theorem dX2_root_13 : decode cX2_root 13 = .ok (.goto 4, 3) := by decide +kernel
theorem dX2_root_16 : decode cX2_root 16 = .ok (.iconst (-1), 1) := by decide +kernel
theorem dX2_root_17 : decode cX2_root 17 = .ok (.ireturn, 1) := by decide +kernel
theorem dX2_word_0 : decode cX2_word 0 = .ok (.aload_n 0, 1) := by decide +kernel
theorem dX2_word_1 : decode cX2_word 1 = .ok (.getfield 10, 3) := by decide +kernel
theorem dX2_word_4 : decode cX2_word 4 = .ok (.iload_n 1, 1) := by decide +kernel
theorem dX2_word_5 : decode cX2_word 5 = .ok (.invokevirtual 101, 3) := by decide +kernel
theorem dX2_word_8 : decode cX2_word 8 = .ok (.ifCond .eq 14, 3) := by decide +kernel
theorem dX2_word_11 : decode cX2_word 11 = .ok (.aload_n 0, 1) := by decide +kernel
theorem dX2_word_12 : decode cX2_word 12 = .ok (.getfield 10, 3) := by decide +kernel
theorem dX2_word_15 : decode cX2_word 15 = .ok (.iload_n 1, 1) := by decide +kernel
theorem dX2_word_16 : decode cX2_word 16 = .ok (.invokevirtual 104, 3) := by decide +kernel
theorem dX2_word_19 : decode cX2_word 19 = .ok (.goto 4, 3) := by decide +kernel
theorem dX2_word_22 : decode cX2_word 22 = .ok (.iconst 0, 1) := by decide +kernel
theorem dX2_word_23 : decode cX2_word 23 = .ok (.ireturn, 1) := by decide +kernel
theorem dX2_object_0 : decode cX2_object 0 = .ok (.aload_n 0, 1) := by decide +kernel
theorem dX2_object_1 : decode cX2_object 1 = .ok (.getfield 10, 3) := by decide +kernel
theorem dX2_object_4 : decode cX2_object 4 = .ok (.iload_n 1, 1) := by decide +kernel
theorem dX2_object_5 : decode cX2_object 5 = .ok (.invokevirtual 90, 3) := by decide +kernel
theorem dX2_object_8 : decode cX2_object 8 = .ok (.ifCond .ne 5, 3) := by decide +kernel
theorem dX2_object_11 : decode cX2_object 11 = .ok (.iconst (-1), 1) := by decide +kernel
theorem dX2_object_12 : decode cX2_object 12 = .ok (.ireturn, 1) := by decide +kernel
theorem dX2_object_13 : decode cX2_object 13 = .ok (.iload_n 2, 1) := by decide +kernel
theorem dX2_object_14 : decode cX2_object 14 = .ok (.tableswitch 53 0 2 #[26, 35, 44], 26) := by decide +kernel
theorem dX2_object_40 : decode cX2_object 40 = .ok (.aload_n 0, 1) := by decide +kernel
theorem dX2_object_41 : decode cX2_object 41 = .ok (.getfield 10, 3) := by decide +kernel
theorem dX2_object_44 : decode cX2_object 44 = .ok (.iload_n 1, 1) := by decide +kernel
theorem dX2_object_45 : decode cX2_object 45 = .ok (.invokevirtual 107, 3) := by decide +kernel
theorem dX2_object_48 : decode cX2_object 48 = .ok (.ireturn, 1) := by decide +kernel
theorem dX2_object_49 : decode cX2_object 49 = .ok (.aload_n 0, 1) := by decide +kernel
theorem dX2_object_50 : decode cX2_object 50 = .ok (.getfield 10, 3) := by decide +kernel
theorem dX2_object_53 : decode cX2_object 53 = .ok (.iload_n 1, 1) := by decide +kernel
theorem dX2_object_54 : decode cX2_object 54 = .ok (.invokevirtual 78, 3) := by decide +kernel
theorem dX2_object_57 : decode cX2_object 57 = .ok (.ireturn, 1) := by decide +kernel
theorem dX2_object_58 : decode cX2_object 58 = .ok (.aload_n 0, 1) := by decide +kernel
theorem dX2_object_59 : decode cX2_object 59 = .ok (.getfield 10, 3) := by decide +kernel
theorem dX2_object_62 : decode cX2_object 62 = .ok (.iload_n 1, 1) := by decide +kernel
theorem dX2_object_63 : decode cX2_object 63 = .ok (.invokevirtual 110, 3) := by decide +kernel
theorem dX2_object_66 : decode cX2_object 66 = .ok (.ireturn, 1) := by decide +kernel
theorem dX2_object_67 : decode cX2_object 67 = .ok (.iconst (-1), 1) := by decide +kernel
theorem dX2_object_68 : decode cX2_object 68 = .ok (.ireturn, 1) := by decide +kernel
theorem dX2_page_0 : decode cX2_page 0 = .ok (.aload_n 0, 1) := by decide +kernel
theorem dX2_page_1 : decode cX2_page 1 = .ok (.getfield 10, 3) := by decide +kernel
theorem dX2_page_4 : decode cX2_page 4 = .ok (.iload_n 1, 1) := by decide +kernel
theorem dX2_page_5 : decode cX2_page 5 = .ok (.invokevirtual 113, 3) := by decide +kernel
theorem dX2_page_8 : decode cX2_page 8 = .ok (.ifCond .ne 5, 3) := by decide +kernel
theorem dX2_page_11 : decode cX2_page 11 = .ok (.iconst (-1), 1) := by decide +kernel
theorem dX2_page_12 : decode cX2_page 12 = .ok (.ireturn, 1) := by decide +kernel
theorem dX2_page_13 : decode cX2_page 13 = .ok (.iload_n 2, 1) := by decide +kernel
theorem dX2_page_14 : decode cX2_page 14 = .ok (.tableswitch 66 0 3 #[30, 39, 48, 57], 30) := by decide +kernel
theorem dX2_page_44 : decode cX2_page 44 = .ok (.aload_n 0, 1) := by decide +kernel
theorem dX2_page_45 : decode cX2_page 45 = .ok (.getfield 10, 3) := by decide +kernel
theorem dX2_page_48 : decode cX2_page 48 = .ok (.iload_n 1, 1) := by decide +kernel
theorem dX2_page_49 : decode cX2_page 49 = .ok (.invokevirtual 116, 3) := by decide +kernel
theorem dX2_page_52 : decode cX2_page 52 = .ok (.ireturn, 1) := by decide +kernel
theorem dX2_page_53 : decode cX2_page 53 = .ok (.aload_n 0, 1) := by decide +kernel
theorem dX2_page_54 : decode cX2_page 54 = .ok (.getfield 10, 3) := by decide +kernel
theorem dX2_page_57 : decode cX2_page 57 = .ok (.iload_n 1, 1) := by decide +kernel
theorem dX2_page_58 : decode cX2_page 58 = .ok (.invokevirtual 119, 3) := by decide +kernel
theorem dX2_page_61 : decode cX2_page 61 = .ok (.ireturn, 1) := by decide +kernel
theorem dX2_page_62 : decode cX2_page 62 = .ok (.aload_n 0, 1) := by decide +kernel
theorem dX2_page_63 : decode cX2_page 63 = .ok (.getfield 10, 3) := by decide +kernel
theorem dX2_page_66 : decode cX2_page 66 = .ok (.iload_n 1, 1) := by decide +kernel
theorem dX2_page_67 : decode cX2_page 67 = .ok (.invokevirtual 122, 3) := by decide +kernel
theorem dX2_page_70 : decode cX2_page 70 = .ok (.ireturn, 1) := by decide +kernel
theorem dX2_page_71 : decode cX2_page 71 = .ok (.aload_n 0, 1) := by decide +kernel
theorem dX2_page_72 : decode cX2_page 72 = .ok (.getfield 21, 3) := by decide +kernel
theorem dX2_page_75 : decode cX2_page 75 = .ok (.iload_n 1, 1) := by decide +kernel
theorem dX2_page_76 : decode cX2_page 76 = .ok (.invokevirtual 125, 3) := by decide +kernel
theorem dX2_page_79 : decode cX2_page 79 = .ok (.ireturn, 1) := by decide +kernel
theorem dX2_page_80 : decode cX2_page 80 = .ok (.iconst (-1), 1) := by decide +kernel
theorem dX2_page_81 : decode cX2_page 81 = .ok (.ireturn, 1) := by decide +kernel
theorem dX2_look_0 : decode cX2_look 0 = .ok (.iload_n 1, 1) := by decide +kernel
theorem dX2_look_1 : decode cX2_look 1 = .ok (.tableswitch 171 0 12 #[67, 75, 83, 91, 99, 107, 115, 123, 131, 139, 147, 155, 163], 67) := by decide +kernel
theorem dX2_look_68 : decode cX2_look 68 = .ok (.aload_n 0, 1) := by decide +kernel
theorem dX2_look_69 : decode cX2_look 69 = .ok (.getfield 10, 3) := by decide +kernel
theorem dX2_look_72 : decode cX2_look 72 = .ok (.invokevirtual 128, 3) := by decide +kernel
theorem dX2_look_75 : decode cX2_look 75 = .ok (.ireturn, 1) := by decide +kernel
theorem dX2_look_76 : decode cX2_look 76 = .ok (.aload_n 0, 1) := by decide +kernel
theorem dX2_look_77 : decode cX2_look 77 = .ok (.getfield 10, 3) := by decide +kernel
theorem dX2_look_80 : decode cX2_look 80 = .ok (.invokevirtual 131, 3) := by decide +kernel
theorem dX2_look_83 : decode cX2_look 83 = .ok (.ireturn, 1) := by decide +kernel
theorem dX2_look_84 : decode cX2_look 84 = .ok (.aload_n 0, 1) := by decide +kernel
theorem dX2_look_85 : decode cX2_look 85 = .ok (.getfield 10, 3) := by decide +kernel
theorem dX2_look_88 : decode cX2_look 88 = .ok (.invokevirtual 94, 3) := by decide +kernel
theorem dX2_look_91 : decode cX2_look 91 = .ok (.ireturn, 1) := by decide +kernel
theorem dX2_look_92 : decode cX2_look 92 = .ok (.aload_n 0, 1) := by decide +kernel
theorem dX2_look_93 : decode cX2_look 93 = .ok (.getfield 10, 3) := by decide +kernel
theorem dX2_look_96 : decode cX2_look 96 = .ok (.invokevirtual 134, 3) := by decide +kernel
theorem dX2_look_99 : decode cX2_look 99 = .ok (.ireturn, 1) := by decide +kernel
theorem dX2_look_100 : decode cX2_look 100 = .ok (.aload_n 0, 1) := by decide +kernel
theorem dX2_look_101 : decode cX2_look 101 = .ok (.getfield 10, 3) := by decide +kernel
theorem dX2_look_104 : decode cX2_look 104 = .ok (.invokevirtual 137, 3) := by decide +kernel
theorem dX2_look_107 : decode cX2_look 107 = .ok (.ireturn, 1) := by decide +kernel
theorem dX2_look_108 : decode cX2_look 108 = .ok (.aload_n 0, 1) := by decide +kernel
theorem dX2_look_109 : decode cX2_look 109 = .ok (.getfield 10, 3) := by decide +kernel
theorem dX2_look_112 : decode cX2_look 112 = .ok (.invokevirtual 140, 3) := by decide +kernel
theorem dX2_look_115 : decode cX2_look 115 = .ok (.ireturn, 1) := by decide +kernel
theorem dX2_look_116 : decode cX2_look 116 = .ok (.aload_n 0, 1) := by decide +kernel
theorem dX2_look_117 : decode cX2_look 117 = .ok (.getfield 21, 3) := by decide +kernel
theorem dX2_look_120 : decode cX2_look 120 = .ok (.invokevirtual 143, 3) := by decide +kernel
theorem dX2_look_123 : decode cX2_look 123 = .ok (.ireturn, 1) := by decide +kernel
theorem dX2_look_124 : decode cX2_look 124 = .ok (.aload_n 0, 1) := by decide +kernel
theorem dX2_look_125 : decode cX2_look 125 = .ok (.getfield 21, 3) := by decide +kernel
theorem dX2_look_128 : decode cX2_look 128 = .ok (.invokevirtual 146, 3) := by decide +kernel
theorem dX2_look_131 : decode cX2_look 131 = .ok (.ireturn, 1) := by decide +kernel
theorem dX2_look_132 : decode cX2_look 132 = .ok (.aload_n 0, 1) := by decide +kernel
theorem dX2_look_133 : decode cX2_look 133 = .ok (.getfield 21, 3) := by decide +kernel
theorem dX2_look_136 : decode cX2_look 136 = .ok (.invokevirtual 149, 3) := by decide +kernel
theorem dX2_look_139 : decode cX2_look 139 = .ok (.ireturn, 1) := by decide +kernel
theorem dX2_look_140 : decode cX2_look 140 = .ok (.aload_n 0, 1) := by decide +kernel
theorem dX2_look_141 : decode cX2_look 141 = .ok (.getfield 21, 3) := by decide +kernel
theorem dX2_look_144 : decode cX2_look 144 = .ok (.invokevirtual 152, 3) := by decide +kernel
theorem dX2_look_147 : decode cX2_look 147 = .ok (.ireturn, 1) := by decide +kernel
theorem dX2_look_148 : decode cX2_look 148 = .ok (.aload_n 0, 1) := by decide +kernel
theorem dX2_look_149 : decode cX2_look 149 = .ok (.getfield 21, 3) := by decide +kernel
theorem dX2_look_152 : decode cX2_look 152 = .ok (.invokevirtual 155, 3) := by decide +kernel
theorem dX2_look_155 : decode cX2_look 155 = .ok (.ireturn, 1) := by decide +kernel
theorem dX2_look_156 : decode cX2_look 156 = .ok (.aload_n 0, 1) := by decide +kernel
theorem dX2_look_157 : decode cX2_look 157 = .ok (.getfield 21, 3) := by decide +kernel
theorem dX2_look_160 : decode cX2_look 160 = .ok (.invokevirtual 158, 3) := by decide +kernel
theorem dX2_look_163 : decode cX2_look 163 = .ok (.ireturn, 1) := by decide +kernel
theorem dX2_look_164 : decode cX2_look 164 = .ok (.aload_n 0, 1) := by decide +kernel
theorem dX2_look_165 : decode cX2_look 165 = .ok (.getfield 21, 3) := by decide +kernel
theorem dX2_look_168 : decode cX2_look 168 = .ok (.invokevirtual 161, 3) := by decide +kernel
theorem dX2_look_171 : decode cX2_look 171 = .ok (.ireturn, 1) := by decide +kernel
theorem dX2_look_172 : decode cX2_look 172 = .ok (.iconst (-1), 1) := by decide +kernel
theorem dX2_look_173 : decode cX2_look 173 = .ok (.ireturn, 1) := by decide +kernel
theorem dX2_startOver_0 : decode cX2_startOver 0 = .ok (.aload_n 0, 1) := by decide +kernel
theorem dX2_startOver_1 : decode cX2_startOver 1 = .ok (.getfield 10, 3) := by decide +kernel
theorem dX2_startOver_4 : decode cX2_startOver 4 = .ok (.iload_n 1, 1) := by decide +kernel
theorem dX2_startOver_5 : decode cX2_startOver 5 = .ok (.iload_n 2, 1) := by decide +kernel
theorem dX2_startOver_6 : decode cX2_startOver 6 = .ok (.invokevirtual 164, 3) := by decide +kernel
theorem dX2_startOver_9 : decode cX2_startOver 9 = .ok (.aload_n 0, 1) := by decide +kernel
theorem dX2_startOver_10 : decode cX2_startOver 10 = .ok (.getfield 21, 3) := by decide +kernel
theorem dX2_startOver_13 : decode cX2_startOver 13 = .ok (.invokevirtual 165, 3) := by decide +kernel
theorem dX2_startOver_16 : decode cX2_startOver 16 = .ok (.aload_n 0, 1) := by decide +kernel
theorem dX2_startOver_17 : decode cX2_startOver 17 = .ok (.getfield 25, 3) := by decide +kernel
theorem dX2_startOver_20 : decode cX2_startOver 20 = .ok (.iconst (-1), 1) := by decide +kernel
theorem dX2_startOver_21 : decode cX2_startOver 21 = .ok (.invokestatic 167, 3) := by decide +kernel
theorem dX2_startOver_24 : decode cX2_startOver 24 = .ok (.aload_n 0, 1) := by decide +kernel
theorem dX2_startOver_25 : decode cX2_startOver 25 = .ok (.getfield 29, 3) := by decide +kernel
theorem dX2_startOver_28 : decode cX2_startOver 28 = .ok (.iconst (-1), 1) := by decide +kernel
theorem dX2_startOver_29 : decode cX2_startOver 29 = .ok (.invokestatic 167, 3) := by decide +kernel
theorem dX2_startOver_32 : decode cX2_startOver 32 = .ok (.return_, 1) := by decide +kernel
theorem dX2_isRoot_0 : decode cX2_isRoot 0 = .ok (.iload_n 0, 1) := by decide +kernel
theorem dX2_isRoot_1 : decode cX2_isRoot 1 = .ok (.ifCond .lt 13, 3) := by decide +kernel
theorem dX2_isRoot_4 : decode cX2_isRoot 4 = .ok (.iload_n 0, 1) := by decide +kernel
theorem dX2_isRoot_5 : decode cX2_isRoot 5 = .ok (.bipush 32, 2) := by decide +kernel
theorem dX2_isRoot_7 : decode cX2_isRoot 7 = .ok (.if_icmp .ge 7, 3) := by decide +kernel
theorem dX2_isRoot_10 : decode cX2_isRoot 10 = .ok (.iconst 1, 1) := by decide +kernel
theorem dX2_isRoot_11 : decode cX2_isRoot 11 = .ok (.goto 4, 3) := by decide +kernel
theorem dX2_isRoot_14 : decode cX2_isRoot 14 = .ok (.iconst 0, 1) := by decide +kernel
theorem dX2_isRoot_15 : decode cX2_isRoot 15 = .ok (.ireturn, 1) := by decide +kernel
theorem dX2_needRoot_0 : decode cX2_needRoot 0 = .ok (.iload_n 0, 1) := by decide +kernel
theorem dX2_needRoot_1 : decode cX2_needRoot 1 = .ok (.invokestatic 98, 3) := by decide +kernel
theorem dX2_needRoot_4 : decode cX2_needRoot 4 = .ok (.ifCond .ne 13, 3) := by decide +kernel
theorem dX2_needRoot_7 : decode cX2_needRoot 7 = .ok (.new 36, 3) := by decide +kernel
theorem dX2_needRoot_10 : decode cX2_needRoot 10 = .ok (.dup, 1) := by decide +kernel
theorem dX2_needRoot_11 : decode cX2_needRoot 11 = .ok (.ldc 173, 2) := by decide +kernel
theorem dX2_needRoot_13 : decode cX2_needRoot 13 = .ok (.invokespecial 40, 3) := by decide +kernel
theorem dX2_needRoot_16 : decode cX2_needRoot 16 = .ok (.athrow, 1) := by decide +kernel
theorem dX2_needRoot_17 : decode cX2_needRoot 17 = .ok (.return_, 1) := by decide +kernel
theorem dX2_needObject_0 : decode cX2_needObject 0 = .ok (.aload_n 0, 1) := by decide +kernel
theorem dX2_needObject_1 : decode cX2_needObject 1 = .ok (.getfield 25, 3) := by decide +kernel
theorem dX2_needObject_4 : decode cX2_needObject 4 = .ok (.iload_n 1, 1) := by decide +kernel
theorem dX2_needObject_5 : decode cX2_needObject 5 = .ok (.iaload, 1) := by decide +kernel
theorem dX2_needObject_6 : decode cX2_needObject 6 = .ok (.iconst (-1), 1) := by decide +kernel
theorem dX2_needObject_7 : decode cX2_needObject 7 = .ok (.if_icmp .ne 13, 3) := by decide +kernel
theorem dX2_needObject_10 : decode cX2_needObject 10 = .ok (.new 175, 3) := by decide +kernel
theorem dX2_needObject_13 : decode cX2_needObject 13 = .ok (.dup, 1) := by decide +kernel
theorem dX2_needObject_14 : decode cX2_needObject 14 = .ok (.ldc 177, 2) := by decide +kernel
theorem dX2_needObject_16 : decode cX2_needObject 16 = .ok (.invokespecial 179, 3) := by decide +kernel
theorem dX2_needObject_19 : decode cX2_needObject 19 = .ok (.athrow, 1) := by decide +kernel
theorem dX2_needObject_20 : decode cX2_needObject 20 = .ok (.return_, 1) := by decide +kernel
theorem dX2_needRef_0 : decode cX2_needRef 0 = .ok (.iload_n 2, 1) := by decide +kernel
theorem dX2_needRef_1 : decode cX2_needRef 1 = .ok (.ifCond .lt 20, 3) := by decide +kernel
theorem dX2_needRef_4 : decode cX2_needRef 4 = .ok (.iload_n 2, 1) := by decide +kernel
theorem dX2_needRef_5 : decode cX2_needRef 5 = .ok (.aload_n 0, 1) := by decide +kernel
theorem dX2_needRef_6 : decode cX2_needRef 6 = .ok (.getfield 10, 3) := by decide +kernel
theorem dX2_needRef_9 : decode cX2_needRef 9 = .ok (.aload_n 0, 1) := by decide +kernel
theorem dX2_needRef_10 : decode cX2_needRef 10 = .ok (.getfield 25, 3) := by decide +kernel
theorem dX2_needRef_13 : decode cX2_needRef 13 = .ok (.iload_n 1, 1) := by decide +kernel
theorem dX2_needRef_14 : decode cX2_needRef 14 = .ok (.iaload, 1) := by decide +kernel
theorem dX2_needRef_15 : decode cX2_needRef 15 = .ok (.invokevirtual 107, 3) := by decide +kernel
theorem dX2_needRef_18 : decode cX2_needRef 18 = .ok (.if_icmp .lt 13, 3) := by decide +kernel
theorem dX2_needRef_21 : decode cX2_needRef 21 = .ok (.new 81, 3) := by decide +kernel
theorem dX2_needRef_24 : decode cX2_needRef 24 = .ok (.dup, 1) := by decide +kernel
theorem dX2_needRef_25 : decode cX2_needRef 25 = .ok (.ldc 180, 2) := by decide +kernel
theorem dX2_needRef_27 : decode cX2_needRef 27 = .ok (.invokespecial 85, 3) := by decide +kernel
theorem dX2_needRef_30 : decode cX2_needRef 30 = .ok (.athrow, 1) := by decide +kernel
theorem dX2_needRef_31 : decode cX2_needRef 31 = .ok (.return_, 1) := by decide +kernel
