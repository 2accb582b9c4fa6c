theorem dX9_ware_5 : decode cX9_ware 5 = .ok (.invokestatic 52, 3) := by decide +kernel
theorem dX9_ware_8 : decode cX9_ware 8 = .ok (.ifCond .ne 10, 3) := by decide +kernel
theorem dX9_ware_11 : decode cX9_ware 11 = .ok (.aload_n 0, 1) := by decide +kernel
theorem dX9_ware_12 : decode cX9_ware 12 = .ok (.ldc 56, 2) := by decide +kernel
theorem dX9_ware_14 : decode cX9_ware 14 = .ok (.invokevirtual 57, 3) := by decide +kernel
theorem dX9_ware_17 : decode cX9_ware 17 = .ok (.ireturn, 1) := by decide +kernel
theorem dX9_ware_18 : decode cX9_ware 18 = .ok (.aload_n 0, 1) := by decide +kernel
theorem dX9_ware_19 : decode cX9_ware 19 = .ok (.getfield 12, 3) := by decide +kernel
theorem dX9_ware_22 : decode cX9_ware 22 = .ok (.getfield 168, 3) := by decide +kernel
theorem dX9_ware_25 : decode cX9_ware 25 = .ok (.bipush 6, 2) := by decide +kernel
theorem dX9_ware_27 : decode cX9_ware 27 = .ok (.if_icmp .lt 10, 3) := by decide +kernel
theorem dX9_ware_30 : decode cX9_ware 30 = .ok (.aload_n 0, 1) := by decide +kernel
theorem dX9_ware_31 : decode cX9_ware 31 = .ok (.ldc 65, 2) := by decide +kernel
theorem dX9_ware_33 : decode cX9_ware 33 = .ok (.invokevirtual 57, 3) := by decide +kernel
theorem dX9_ware_36 : decode cX9_ware 36 = .ok (.ireturn, 1) := by decide +kernel
theorem dX9_ware_37 : decode cX9_ware 37 = .ok (.aload_n 0, 1) := by decide +kernel
theorem dX9_ware_38 : decode cX9_ware 38 = .ok (.getfield 12, 3) := by decide +kernel
theorem dX9_ware_41 : decode cX9_ware 41 = .ok (.iload_n 1, 1) := by decide +kernel
theorem dX9_ware_42 : decode cX9_ware 42 = .ok (.invokevirtual 171, 3) := by decide +kernel
theorem dX9_ware_45 : decode cX9_ware 45 = .ok (.ireturn, 1) := by decide +kernel
theorem dX9_wareOf_0 : decode cX9_wareOf 0 = .ok (.aload_n 0, 1) := by decide +kernel
theorem dX9_wareOf_1 : decode cX9_wareOf 1 = .ok (.getfield 12, 3) := by decide +kernel
theorem dX9_wareOf_4 : decode cX9_wareOf 4 = .ok (.iload_n 1, 1) := by decide +kernel
theorem dX9_wareOf_5 : decode cX9_wareOf 5 = .ok (.invokevirtual 174, 3) := by decide +kernel
theorem dX9_wareOf_8 : decode cX9_wareOf 8 = .ok (.ifCond .eq 12, 3) := by decide +kernel
theorem dX9_wareOf_11 : decode cX9_wareOf 11 = .ok (.iload_n 2, 1) := by decide +kernel
theorem dX9_wareOf_12 : decode cX9_wareOf 12 = .ok (.iconst 0, 1) := by decide +kernel
theorem dX9_wareOf_13 : decode cX9_wareOf 13 = .ok (.iconst 1, 1) := by decide +kernel
theorem dX9_wareOf_14 : decode cX9_wareOf 14 = .ok (.invokestatic 52, 3) := by decide +kernel
theorem dX9_wareOf_17 : decode cX9_wareOf 17 = .ok (.ifCond .ne 10, 3) := by decide +kernel
theorem dX9_wareOf_20 : decode cX9_wareOf 20 = .ok (.aload_n 0, 1) := by decide +kernel
theorem dX9_wareOf_21 : decode cX9_wareOf 21 = .ok (.ldc 56, 2) := by decide +kernel
theorem dX9_wareOf_23 : decode cX9_wareOf 23 = .ok (.invokevirtual 57, 3) := by decide +kernel
theorem dX9_wareOf_26 : decode cX9_wareOf 26 = .ok (.ireturn, 1) := by decide +kernel
theorem dX9_wareOf_27 : decode cX9_wareOf 27 = .ok (.iload_n 2, 1) := by decide +kernel
theorem dX9_wareOf_28 : decode cX9_wareOf 28 = .ok (.ifCond .ne 18, 3) := by decide +kernel
theorem dX9_wareOf_31 : decode cX9_wareOf 31 = .ok (.aload_n 0, 1) := by decide +kernel
theorem dX9_wareOf_32 : decode cX9_wareOf 32 = .ok (.getfield 12, 3) := by decide +kernel
theorem dX9_wareOf_35 : decode cX9_wareOf 35 = .ok (.getfield 177, 3) := by decide +kernel
theorem dX9_wareOf_38 : decode cX9_wareOf 38 = .ok (.iload_n 1, 1) := by decide +kernel
theorem dX9_wareOf_39 : decode cX9_wareOf 39 = .ok (.aaload, 1) := by decide +kernel
theorem dX9_wareOf_40 : decode cX9_wareOf 40 = .ok (.getfield 181, 3) := by decide +kernel
theorem dX9_wareOf_43 : decode cX9_wareOf 43 = .ok (.goto 15, 3) := by decide +kernel
theorem dX9_wareOf_46 : decode cX9_wareOf 46 = .ok (.aload_n 0, 1) := by decide +kernel
theorem dX9_wareOf_47 : decode cX9_wareOf 47 = .ok (.getfield 12, 3) := by decide +kernel
theorem dX9_wareOf_50 : decode cX9_wareOf 50 = .ok (.getfield 177, 3) := by decide +kernel
theorem dX9_wareOf_53 : decode cX9_wareOf 53 = .ok (.iload_n 1, 1) := by decide +kernel
theorem dX9_wareOf_54 : decode cX9_wareOf 54 = .ok (.aaload, 1) := by decide +kernel
theorem dX9_wareOf_55 : decode cX9_wareOf 55 = .ok (.getfield 186, 3) := by decide +kernel
theorem dX9_wareOf_58 : decode cX9_wareOf 58 = .ok (.ireturn, 1) := by decide +kernel
theorem dX9_far_0 : decode cX9_far 0 = .ok (.aload_n 0, 1) := by decide +kernel
theorem dX9_far_1 : decode cX9_far 1 = .ok (.getfield 12, 3) := by decide +kernel
theorem dX9_far_4 : decode cX9_far 4 = .ok (.iload_n 1, 1) := by decide +kernel
theorem dX9_far_5 : decode cX9_far 5 = .ok (.invokevirtual 70, 3) := by decide +kernel
theorem dX9_far_8 : decode cX9_far 8 = .ok (.ifCond .eq 17, 3) := by decide +kernel
theorem dX9_far_11 : decode cX9_far 11 = .ok (.iload_n 2, 1) := by decide +kernel
theorem dX9_far_12 : decode cX9_far 12 = .ok (.invokestatic 189, 3) := by decide +kernel
theorem dX9_far_15 : decode cX9_far 15 = .ok (.ifCond .eq 10, 3) := by decide +kernel
theorem dX9_far_18 : decode cX9_far 18 = .ok (.iload_n 3, 1) := by decide +kernel
theorem dX9_far_19 : decode cX9_far 19 = .ok (.invokestatic 189, 3) := by decide +kernel
theorem dX9_far_22 : decode cX9_far 22 = .ok (.ifCond .ne 10, 3) := by decide +kernel
theorem dX9_far_25 : decode cX9_far 25 = .ok (.aload_n 0, 1) := by decide +kernel
theorem dX9_far_26 : decode cX9_far 26 = .ok (.ldc 56, 2) := by decide +kernel
theorem dX9_far_28 : decode cX9_far 28 = .ok (.invokevirtual 57, 3) := by decide +kernel
theorem dX9_far_31 : decode cX9_far 31 = .ok (.ireturn, 1) := by decide +kernel
theorem dX9_far_32 : decode cX9_far 32 = .ok (.aload_n 0, 1) := by decide +kernel
theorem dX9_far_33 : decode cX9_far 33 = .ok (.aload_n 0, 1) := by decide +kernel
theorem dX9_far_34 : decode cX9_far 34 = .ok (.getfield 12, 3) := by decide +kernel
theorem dX9_far_37 : decode cX9_far 37 = .ok (.getfield 112, 3) := by decide +kernel
theorem dX9_far_40 : decode cX9_far 40 = .ok (.aload_n 0, 1) := by decide +kernel
theorem dX9_far_41 : decode cX9_far 41 = .ok (.getfield 12, 3) := by decide +kernel
theorem dX9_far_44 : decode cX9_far 44 = .ok (.getfield 74, 3) := by decide +kernel
theorem dX9_far_47 : decode cX9_far 47 = .ok (.iload_n 1, 1) := by decide +kernel
theorem dX9_far_48 : decode cX9_far 48 = .ok (.aaload, 1) := by decide +kernel
theorem dX9_far_49 : decode cX9_far 49 = .ok (.getfield 78, 3) := by decide +kernel
theorem dX9_far_52 : decode cX9_far 52 = .ok (.iload_n 2, 1) := by decide +kernel
theorem dX9_far_53 : decode cX9_far 53 = .ok (.iload_n 3, 1) := by decide +kernel
theorem dX9_far_54 : decode cX9_far 54 = .ok (.invokevirtual 192, 3) := by decide +kernel
theorem dX9_far_57 : decode cX9_far 57 = .ok (.invokevirtual 165, 3) := by decide +kernel
theorem dX9_far_60 : decode cX9_far 60 = .ok (.ireturn, 1) := by decide +kernel
theorem dX9_first_0 : decode cX9_first 0 = .ok (.aload_n 0, 1) := by decide +kernel
theorem dX9_first_1 : decode cX9_first 1 = .ok (.getfield 12, 3) := by decide +kernel
theorem dX9_first_4 : decode cX9_first 4 = .ok (.iload_n 1, 1) := by decide +kernel
theorem dX9_first_5 : decode cX9_first 5 = .ok (.invokevirtual 70, 3) := by decide +kernel
theorem dX9_first_8 : decode cX9_first 8 = .ok (.ifCond .eq 10, 3) := by decide +kernel
theorem dX9_first_11 : decode cX9_first 11 = .ok (.iload_n 2, 1) := by decide +kernel
theorem dX9_first_12 : decode cX9_first 12 = .ok (.invokestatic 189, 3) := by decide +kernel
theorem dX9_first_15 : decode cX9_first 15 = .ok (.ifCond .ne 10, 3) := by decide +kernel
theorem dX9_first_18 : decode cX9_first 18 = .ok (.aload_n 0, 1) := by decide +kernel
theorem dX9_first_19 : decode cX9_first 19 = .ok (.ldc 56, 2) := by decide +kernel
theorem dX9_first_21 : decode cX9_first 21 = .ok (.invokevirtual 57, 3) := by decide +kernel
theorem dX9_first_24 : decode cX9_first 24 = .ok (.ireturn, 1) := by decide +kernel
theorem dX9_first_25 : decode cX9_first 25 = .ok (.aload_n 0, 1) := by decide +kernel
theorem dX9_first_26 : decode cX9_first 26 = .ok (.getfield 12, 3) := by decide +kernel
theorem dX9_first_29 : decode cX9_first 29 = .ok (.getfield 74, 3) := by decide +kernel
theorem dX9_first_32 : decode cX9_first 32 = .ok (.iload_n 1, 1) := by decide +kernel
theorem dX9_first_33 : decode cX9_first 33 = .ok (.aaload, 1) := by decide +kernel
theorem dX9_first_34 : decode cX9_first 34 = .ok (.astore_n 3, 1) := by decide +kernel
theorem dX9_first_35 : decode cX9_first 35 = .ok (.aload_n 0, 1) := by decide +kernel
theorem dX9_first_36 : decode cX9_first 36 = .ok (.getfield 12, 3) := by decide +kernel
theorem dX9_first_39 : decode cX9_first 39 = .ok (.getfield 112, 3) := by decide +kernel
theorem dX9_first_42 : decode cX9_first 42 = .ok (.aload_n 3, 1) := by decide +kernel
theorem dX9_first_43 : decode cX9_first 43 = .ok (.getfield 78, 3) := by decide +kernel
theorem dX9_first_46 : decode cX9_first 46 = .ok (.aload_n 3, 1) := by decide +kernel
theorem dX9_first_47 : decode cX9_first 47 = .ok (.getfield 83, 3) := by decide +kernel
theorem dX9_first_50 : decode cX9_first 50 = .ok (.iload_n 2, 1) := by decide +kernel
theorem dX9_first_51 : decode cX9_first 51 = .ok (.invokevirtual 192, 3) := by decide +kernel
theorem dX9_first_54 : decode cX9_first 54 = .ok (.ldc 195, 2) := by decide +kernel
theorem dX9_first_56 : decode cX9_first 56 = .ok (.if_icmp .lt 10, 3) := by decide +kernel
theorem dX9_first_59 : decode cX9_first 59 = .ok (.aload_n 0, 1) := by decide +kernel
theorem dX9_first_60 : decode cX9_first 60 = .ok (.ldc 196, 2) := by decide +kernel
theorem dX9_first_62 : decode cX9_first 62 = .ok (.invokevirtual 57, 3) := by decide +kernel
theorem dX9_first_65 : decode cX9_first 65 = .ok (.ireturn, 1) := by decide +kernel
theorem dX9_first_66 : decode cX9_first 66 = .ok (.aload_n 0, 1) := by decide +kernel
theorem dX9_first_67 : decode cX9_first 67 = .ok (.getfield 12, 3) := by decide +kernel
theorem dX9_first_70 : decode cX9_first 70 = .ok (.getfield 112, 3) := by decide +kernel
theorem dX9_first_73 : decode cX9_first 73 = .ok (.aload_n 3, 1) := by decide +kernel
theorem dX9_first_74 : decode cX9_first 74 = .ok (.getfield 78, 3) := by decide +kernel
theorem dX9_first_77 : decode cX9_first 77 = .ok (.aload_n 3, 1) := by decide +kernel
theorem dX9_first_78 : decode cX9_first 78 = .ok (.getfield 83, 3) := by decide +kernel
theorem dX9_first_81 : decode cX9_first 81 = .ok (.iload_n 2, 1) := by decide +kernel
theorem dX9_first_82 : decode cX9_first 82 = .ok (.invokevirtual 197, 3) := by decide +kernel
theorem dX9_first_85 : decode cX9_first 85 = .ok (.ireturn, 1) := by decide +kernel
theorem dX9_take_0 : decode cX9_take 0 = .ok (.aload_n 0, 1) := by decide +kernel
theorem dX9_take_1 : decode cX9_take 1 = .ok (.getfield 12, 3) := by decide +kernel
theorem dX9_take_4 : decode cX9_take 4 = .ok (.iload_n 1, 1) := by decide +kernel
theorem dX9_take_5 : decode cX9_take 5 = .ok (.invokevirtual 70, 3) := by decide +kernel
theorem dX9_take_8 : decode cX9_take 8 = .ok (.ifCond .eq 14, 3) := by decide +kernel
theorem dX9_take_11 : decode cX9_take 11 = .ok (.aload_n 0, 1) := by decide +kernel
theorem dX9_take_12 : decode cX9_take 12 = .ok (.getfield 12, 3) := by decide +kernel
theorem dX9_take_15 : decode cX9_take 15 = .ok (.iload_n 2, 1) := by decide +kernel
theorem dX9_take_16 : decode cX9_take 16 = .ok (.invokevirtual 138, 3) := by decide +kernel
theorem dX9_take_19 : decode cX9_take 19 = .ok (.ifCond .ne 10, 3) := by decide +kernel
theorem dX9_take_22 : decode cX9_take 22 = .ok (.aload_n 0, 1) := by decide +kernel
theorem dX9_take_23 : decode cX9_take 23 = .ok (.ldc 56, 2) := by decide +kernel
theorem dX9_take_25 : decode cX9_take 25 = .ok (.invokevirtual 57, 3) := by decide +kernel
theorem dX9_take_28 : decode cX9_take 28 = .ok (.ireturn, 1) := by decide +kernel
theorem dX9_take_29 : decode cX9_take 29 = .ok (.aload_n 0, 1) := by decide +kernel
theorem dX9_take_30 : decode cX9_take 30 = .ok (.getfield 12, 3) := by decide +kernel
theorem dX9_take_33 : decode cX9_take 33 = .ok (.iload_n 2, 1) := by decide +kernel
theorem dX9_take_34 : decode cX9_take 34 = .ok (.iload_n 1, 1) := by decide +kernel
theorem dX9_take_35 : decode cX9_take 35 = .ok (.invokevirtual 200, 3) := by decide +kernel
theorem dX9_take_38 : decode cX9_take 38 = .ok (.ifCond .ne 10, 3) := by decide +kernel
theorem dX9_take_41 : decode cX9_take 41 = .ok (.aload_n 0, 1) := by decide +kernel
theorem dX9_take_42 : decode cX9_take 42 = .ok (.ldc 203, 2) := by decide +kernel
theorem dX9_take_44 : decode cX9_take 44 = .ok (.invokevirtual 57, 3) := by decide +kernel
theorem dX9_take_47 : decode cX9_take 47 = .ok (.ireturn, 1) := by decide +kernel
theorem dX9_take_48 : decode cX9_take 48 = .ok (.aload_n 0, 1) := by decide +kernel
theorem dX9_take_49 : decode cX9_take 49 = .ok (.getfield 12, 3) := by decide +kernel
theorem dX9_take_52 : decode cX9_take 52 = .ok (.iload_n 1, 1) := by decide +kernel
theorem dX9_take_53 : decode cX9_take 53 = .ok (.iload_n 2, 1) := by decide +kernel
theorem dX9_take_54 : decode cX9_take 54 = .ok (.invokevirtual 204, 3) := by decide +kernel
theorem dX9_take_57 : decode cX9_take 57 = .ok (.ifCond .ne 10, 3) := by decide +kernel
theorem dX9_take_60 : decode cX9_take 60 = .ok (.aload_n 0, 1) := by decide +kernel
theorem dX9_take_61 : decode cX9_take 61 = .ok (.ldc 65, 2) := by decide +kernel
theorem dX9_take_63 : decode cX9_take 63 = .ok (.invokevirtual 57, 3) := by decide +kernel
theorem dX9_take_66 : decode cX9_take 66 = .ok (.ireturn, 1) := by decide +kernel
theorem dX9_take_67 : decode cX9_take 67 = .ok (.aload_n 0, 1) := by decide +kernel
theorem dX9_take_68 : decode cX9_take 68 = .ok (.getfield 12, 3) := by decide +kernel
theorem dX9_take_71 : decode cX9_take 71 = .ok (.iload_n 1, 1) := by decide +kernel
theorem dX9_take_72 : decode cX9_take 72 = .ok (.iload_n 2, 1) := by decide +kernel
theorem dX9_take_73 : decode cX9_take 73 = .ok (.invokevirtual 207, 3) := by decide +kernel
theorem dX9_take_76 : decode cX9_take 76 = .ok (.aload_n 0, 1) := by decide +kernel
theorem dX9_take_77 : decode cX9_take 77 = .ok (.getfield 12, 3) := by decide +kernel
theorem dX9_take_80 : decode cX9_take 80 = .ok (.aload_n 0, 1) := by decide +kernel
theorem dX9_take_81 : decode cX9_take 81 = .ok (.getfield 12, 3) := by decide +kernel
theorem dX9_take_84 : decode cX9_take 84 = .ok (.iload_n 1, 1) := by decide +kernel
theorem dX9_take_85 : decode cX9_take 85 = .ok (.invokevirtual 99, 3) := by decide +kernel
theorem dX9_take_88 : decode cX9_take 88 = .ok (.invokevirtual 102, 3) := by decide +kernel
theorem dX9_take_91 : decode cX9_take 91 = .ok (.ireturn, 1) := by decide +kernel
theorem dX9_drop_0 : decode cX9_drop 0 = .ok (.aload_n 0, 1) := by decide +kernel
theorem dX9_drop_1 : decode cX9_drop 1 = .ok (.getfield 12, 3) := by decide +kernel
theorem dX9_drop_4 : decode cX9_drop 4 = .ok (.iload_n 1, 1) := by decide +kernel
theorem dX9_drop_5 : decode cX9_drop 5 = .ok (.invokevirtual 70, 3) := by decide +kernel
theorem dX9_drop_8 : decode cX9_drop 8 = .ok (.ifCond .eq 14, 3) := by decide +kernel
theorem dX9_drop_11 : decode cX9_drop 11 = .ok (.aload_n 0, 1) := by decide +kernel
theorem dX9_drop_12 : decode cX9_drop 12 = .ok (.getfield 12, 3) := by decide +kernel
theorem dX9_drop_15 : decode cX9_drop 15 = .ok (.iload_n 2, 1) := by decide +kernel
theorem dX9_drop_16 : decode cX9_drop 16 = .ok (.invokevirtual 138, 3) := by decide +kernel
theorem dX9_drop_19 : decode cX9_drop 19 = .ok (.ifCond .ne 10, 3) := by decide +kernel
theorem dX9_drop_22 : decode cX9_drop 22 = .ok (.aload_n 0, 1) := by decide +kernel
theorem dX9_drop_23 : decode cX9_drop 23 = .ok (.ldc 56, 2) := by decide +kernel
theorem dX9_drop_25 : decode cX9_drop 25 = .ok (.invokevirtual 57, 3) := by decide +kernel
theorem dX9_drop_28 : decode cX9_drop 28 = .ok (.ireturn, 1) := by decide +kernel
theorem dX9_drop_29 : decode cX9_drop 29 = .ok (.aload_n 0, 1) := by decide +kernel
theorem dX9_drop_30 : decode cX9_drop 30 = .ok (.getfield 12, 3) := by decide +kernel
theorem dX9_drop_33 : decode cX9_drop 33 = .ok (.getfield 141, 3) := by decide +kernel
theorem dX9_drop_36 : decode cX9_drop 36 = .ok (.iload_n 2, 1) := by decide +kernel
theorem dX9_drop_37 : decode cX9_drop 37 = .ok (.aaload, 1) := by decide +kernel
theorem dX9_drop_38 : decode cX9_drop 38 = .ok (.astore_n 3, 1) := by decide +kernel
theorem dX9_drop_39 : decode cX9_drop 39 = .ok (.aload_n 0, 1) := by decide +kernel
theorem dX9_drop_40 : decode cX9_drop 40 = .ok (.getfield 12, 3) := by decide +kernel
theorem dX9_drop_43 : decode cX9_drop 43 = .ok (.getfield 74, 3) := by decide +kernel
theorem dX9_drop_46 : decode cX9_drop 46 = .ok (.iload_n 1, 1) := by decide +kernel
theorem dX9_drop_47 : decode cX9_drop 47 = .ok (.aaload, 1) := by decide +kernel
theorem dX9_drop_48 : decode cX9_drop 48 = .ok (.getfield 83, 3) := by decide +kernel
theorem dX9_drop_51 : decode cX9_drop 51 = .ok (.istore 4, 2) := by decide +kernel
theorem dX9_drop_53 : decode cX9_drop 53 = .ok (.aload_n 3, 1) := by decide +kernel
theorem dX9_drop_54 : decode cX9_drop 54 = .ok (.getfield 156, 3) := by decide +kernel
theorem dX9_drop_57 : decode cX9_drop 57 = .ok (.iconst 1, 1) := by decide +kernel
theorem dX9_drop_58 : decode cX9_drop 58 = .ok (.if_icmp .ne 20, 3) := by decide +kernel
theorem dX9_drop_61 : decode cX9_drop 61 = .ok (.aload_n 3, 1) := by decide +kernel
theorem dX9_drop_62 : decode cX9_drop 62 = .ok (.getfield 159, 3) := by decide +kernel
theorem dX9_drop_65 : decode cX9_drop 65 = .ok (.iload_n 1, 1) := by decide +kernel
theorem dX9_drop_66 : decode cX9_drop 66 = .ok (.if_icmp .ne 12, 3) := by decide +kernel
theorem dX9_drop_69 : decode cX9_drop 69 = .ok (.aload_n 3, 1) := by decide +kernel
theorem dX9_drop_70 : decode cX9_drop 70 = .ok (.getfield 153, 3) := by decide +kernel
theorem dX9_drop_73 : decode cX9_drop 73 = .ok (.iload 4, 2) := by decide +kernel
theorem dX9_drop_75 : decode cX9_drop 75 = .ok (.if_icmp .ne 10, 3) := by decide +kernel
theorem dX9_drop_78 : decode cX9_drop 78 = .ok (.aload_n 0, 1) := by decide +kernel
theorem dX9_drop_79 : decode cX9_drop 79 = .ok (.ldc 203, 2) := by decide +kernel
theorem dX9_drop_81 : decode cX9_drop 81 = .ok (.invokevirtual 57, 3) := by decide +kernel
theorem dX9_drop_84 : decode cX9_drop 84 = .ok (.ireturn, 1) := by decide +kernel
theorem dX9_drop_85 : decode cX9_drop 85 = .ok (.aload_n 3, 1) := by decide +kernel
theorem dX9_drop_86 : decode cX9_drop 86 = .ok (.iconst 0, 1) := by decide +kernel
theorem dX9_drop_87 : decode cX9_drop 87 = .ok (.putfield 156, 3) := by decide +kernel
theorem dX9_drop_90 : decode cX9_drop 90 = .ok (.aload_n 3, 1) := by decide +kernel
theorem dX9_drop_91 : decode cX9_drop 91 = .ok (.iconst (-1), 1) := by decide +kernel
theorem dX9_drop_92 : decode cX9_drop 92 = .ok (.putfield 159, 3) := by decide +kernel
theorem dX9_drop_95 : decode cX9_drop 95 = .ok (.aload_n 3, 1) := by decide +kernel
theorem dX9_drop_96 : decode cX9_drop 96 = .ok (.iload 4, 2) := by decide +kernel
theorem dX9_drop_98 : decode cX9_drop 98 = .ok (.putfield 150, 3) := by decide +kernel
theorem dX9_drop_101 : decode cX9_drop 101 = .ok (.aload_n 0, 1) := by decide +kernel
theorem dX9_drop_102 : decode cX9_drop 102 = .ok (.getfield 12, 3) := by decide +kernel
theorem dX9_drop_105 : decode cX9_drop 105 = .ok (.aload_n 0, 1) := by decide +kernel
theorem dX9_drop_106 : decode cX9_drop 106 = .ok (.getfield 12, 3) := by decide +kernel
theorem dX9_drop_109 : decode cX9_drop 109 = .ok (.iload_n 1, 1) := by decide +kernel
theorem dX9_drop_110 : decode cX9_drop 110 = .ok (.invokevirtual 99, 3) := by decide +kernel
theorem dX9_drop_113 : decode cX9_drop 113 = .ok (.invokevirtual 102, 3) := by decide +kernel
theorem dX9_drop_116 : decode cX9_drop 116 = .ok (.ireturn, 1) := by decide +kernel
theorem dX9_walk_0 : decode cX9_walk 0 = .ok (.aload_n 0, 1) := by decide +kernel
theorem dX9_walk_1 : decode cX9_walk 1 = .ok (.getfield 12, 3) := by decide +kernel
theorem dX9_walk_4 : decode cX9_walk 4 = .ok (.iload_n 1, 1) := by decide +kernel
theorem dX9_walk_5 : decode cX9_walk 5 = .ok (.invokevirtual 70, 3) := by decide +kernel
theorem dX9_walk_8 : decode cX9_walk 8 = .ok (.ifCond .eq 10, 3) := by decide +kernel
theorem dX9_walk_11 : decode cX9_walk 11 = .ok (.iload_n 2, 1) := by decide +kernel
theorem dX9_walk_12 : decode cX9_walk 12 = .ok (.invokestatic 189, 3) := by decide +kernel
theorem dX9_walk_15 : decode cX9_walk 15 = .ok (.ifCond .ne 10, 3) := by decide +kernel
theorem dX9_walk_18 : decode cX9_walk 18 = .ok (.aload_n 0, 1) := by decide +kernel
theorem dX9_walk_19 : decode cX9_walk 19 = .ok (.ldc 56, 2) := by decide +kernel
theorem dX9_walk_21 : decode cX9_walk 21 = .ok (.invokevirtual 57, 3) := by decide +kernel
theorem dX9_walk_24 : decode cX9_walk 24 = .ok (.ireturn, 1) := by decide +kernel
theorem dX9_walk_25 : decode cX9_walk 25 = .ok (.aload_n 0, 1) := by decide +kernel
theorem dX9_walk_26 : decode cX9_walk 26 = .ok (.getfield 12, 3) := by decide +kernel
theorem dX9_walk_29 : decode cX9_walk 29 = .ok (.iload_n 1, 1) := by decide +kernel
theorem dX9_walk_30 : decode cX9_walk 30 = .ok (.iload_n 2, 1) := by decide +kernel
theorem dX9_walk_31 : decode cX9_walk 31 = .ok (.invokevirtual 211, 3) := by decide +kernel
theorem dX9_walk_34 : decode cX9_walk 34 = .ok (.ldc 195, 2) := by decide +kernel
theorem dX9_walk_36 : decode cX9_walk 36 = .ok (.if_icmp .lt 10, 3) := by decide +kernel
theorem dX9_walk_39 : decode cX9_walk 39 = .ok (.aload_n 0, 1) := by decide +kernel
theorem dX9_walk_40 : decode cX9_walk 40 = .ok (.ldc 196, 2) := by decide +kernel
theorem dX9_walk_42 : decode cX9_walk 42 = .ok (.invokevirtual 57, 3) := by decide +kernel
theorem dX9_walk_45 : decode cX9_walk 45 = .ok (.ireturn, 1) := by decide +kernel
theorem dX9_walk_46 : decode cX9_walk 46 = .ok (.aload_n 0, 1) := by decide +kernel
theorem dX9_walk_47 : decode cX9_walk 47 = .ok (.getfield 12, 3) := by decide +kernel
theorem dX9_walk_50 : decode cX9_walk 50 = .ok (.iload_n 1, 1) := by decide +kernel
theorem dX9_walk_51 : decode cX9_walk 51 = .ok (.iload_n 2, 1) := by decide +kernel
theorem dX9_walk_52 : decode cX9_walk 52 = .ok (.invokevirtual 214, 3) := by decide +kernel
theorem dX9_walk_55 : decode cX9_walk 55 = .ok (.ireturn, 1) := by decide +kernel
theorem dX9_buy_0 : decode cX9_buy 0 = .ok (.aload_n 0, 1) := by decide +kernel
theorem dX9_buy_1 : decode cX9_buy 1 = .ok (.getfield 12, 3) := by decide +kernel
theorem dX9_buy_4 : decode cX9_buy 4 = .ok (.iload_n 1, 1) := by decide +kernel
theorem dX9_buy_5 : decode cX9_buy 5 = .ok (.invokevirtual 70, 3) := by decide +kernel
theorem dX9_buy_8 : decode cX9_buy 8 = .ok (.ifCond .eq 14, 3) := by decide +kernel
theorem dX9_buy_11 : decode cX9_buy 11 = .ok (.aload_n 0, 1) := by decide +kernel
theorem dX9_buy_12 : decode cX9_buy 12 = .ok (.getfield 12, 3) := by decide +kernel
theorem dX9_buy_15 : decode cX9_buy 15 = .ok (.iload_n 2, 1) := by decide +kernel
theorem dX9_buy_16 : decode cX9_buy 16 = .ok (.invokevirtual 174, 3) := by decide +kernel
theorem dX9_buy_19 : decode cX9_buy 19 = .ok (.ifCond .ne 10, 3) := by decide +kernel
theorem dX9_buy_22 : decode cX9_buy 22 = .ok (.aload_n 0, 1) := by decide +kernel
theorem dX9_buy_23 : decode cX9_buy 23 = .ok (.ldc 56, 2) := by decide +kernel
theorem dX9_buy_25 : decode cX9_buy 25 = .ok (.invokevirtual 57, 3) := by decide +kernel
theorem dX9_buy_28 : decode cX9_buy 28 = .ok (.ireturn, 1) := by decide +kernel
theorem dX9_buy_29 : decode cX9_buy 29 = .ok (.aload_n 0, 1) := by decide +kernel
theorem dX9_buy_30 : decode cX9_buy 30 = .ok (.getfield 12, 3) := by decide +kernel
theorem dX9_buy_33 : decode cX9_buy 33 = .ok (.getfield 74, 3) := by decide +kernel
theorem dX9_buy_36 : decode cX9_buy 36 = .ok (.iload_n 1, 1) := by decide +kernel
theorem dX9_buy_37 : decode cX9_buy 37 = .ok (.aaload, 1) := by decide +kernel
theorem dX9_buy_38 : decode cX9_buy 38 = .ok (.astore_n 3, 1) := by decide +kernel
theorem dX9_buy_39 : decode cX9_buy 39 = .ok (.aload_n 0, 1) := by decide +kernel
theorem dX9_buy_40 : decode cX9_buy 40 = .ok (.getfield 12, 3) := by decide +kernel
theorem dX9_buy_43 : decode cX9_buy 43 = .ok (.getfield 177, 3) := by decide +kernel
theorem dX9_buy_46 : decode cX9_buy 46 = .ok (.iload_n 2, 1) := by decide +kernel
theorem dX9_buy_47 : decode cX9_buy 47 = .ok (.aaload, 1) := by decide +kernel
theorem dX9_buy_48 : decode cX9_buy 48 = .ok (.astore 4, 2) := by decide +kernel
theorem dX9_buy_50 : decode cX9_buy 50 = .ok (.aload 4, 2) := by decide +kernel
theorem dX9_buy_52 : decode cX9_buy 52 = .ok (.getfield 186, 3) := by decide +kernel
theorem dX9_buy_55 : decode cX9_buy 55 = .ok (.iconst (-1), 1) := by decide +kernel
theorem dX9_buy_56 : decode cX9_buy 56 = .ok (.if_icmp .ne 15, 3) := by decide +kernel
theorem dX9_buy_59 : decode cX9_buy 59 = .ok (.aload_n 3, 1) := by decide +kernel
theorem dX9_buy_60 : decode cX9_buy 60 = .ok (.getfield 89, 3) := by decide +kernel
theorem dX9_buy_63 : decode cX9_buy 63 = .ok (.aload 4, 2) := by decide +kernel
theorem dX9_buy_65 : decode cX9_buy 65 = .ok (.getfield 181, 3) := by decide +kernel
theorem dX9_buy_68 : decode cX9_buy 68 = .ok (.if_icmp .ge 10, 3) := by decide +kernel
theorem dX9_buy_71 : decode cX9_buy 71 = .ok (.aload_n 0, 1) := by decide +kernel
theorem dX9_buy_72 : decode cX9_buy 72 = .ok (.ldc 203, 2) := by decide +kernel
theorem dX9_buy_74 : decode cX9_buy 74 = .ok (.invokevirtual 57, 3) := by decide +kernel
theorem dX9_buy_77 : decode cX9_buy 77 = .ok (.ireturn, 1) := by decide +kernel
theorem dX9_buy_78 : decode cX9_buy 78 = .ok (.aload 4, 2) := by decide +kernel
theorem dX9_buy_80 : decode cX9_buy 80 = .ok (.iload_n 1, 1) := by decide +kernel
theorem dX9_buy_81 : decode cX9_buy 81 = .ok (.putfield 186, 3) := by decide +kernel
theorem dX9_buy_84 : decode cX9_buy 84 = .ok (.aload_n 3, 1) := by decide +kernel
theorem dX9_buy_85 : decode cX9_buy 85 = .ok (.dup, 1) := by decide +kernel
theorem dX9_buy_86 : decode cX9_buy 86 = .ok (.getfield 89, 3) := by decide +kernel
theorem dX9_buy_89 : decode cX9_buy 89 = .ok (.aload 4, 2) := by decide +kernel
theorem dX9_buy_91 : decode cX9_buy 91 = .ok (.getfield 181, 3) := by decide +kernel
theorem dX9_buy_94 : decode cX9_buy 94 = .ok (.isub, 1) := by decide +kernel
theorem dX9_buy_95 : decode cX9_buy 95 = .ok (.putfield 89, 3) := by decide +kernel
theorem dX9_buy_98 : decode cX9_buy 98 = .ok (.aload_n 3, 1) := by decide +kernel
theorem dX9_buy_99 : decode cX9_buy 99 = .ok (.getfield 89, 3) := by decide +kernel
theorem dX9_buy_102 : decode cX9_buy 102 = .ok (.ireturn, 1) := by decide +kernel
theorem dX9_now_0 : decode cX9_now 0 = .ok (.iload_n 1, 1) := by decide +kernel
theorem dX9_now_1 : decode cX9_now 1 = .ok (.tableswitch 77 0 4 #[35, 44, 53, 61, 69], 35) := by decide +kernel
theorem dX9_now_36 : decode cX9_now 36 = .ok (.aload_n 0, 1) := by decide +kernel
theorem dX9_now_37 : decode cX9_now 37 = .ok (.getfield 12, 3) := by decide +kernel
theorem dX9_now_40 : decode cX9_now 40 = .ok (.iconst 0, 1) := by decide +kernel
theorem dX9_now_41 : decode cX9_now 41 = .ok (.invokevirtual 217, 3) := by decide +kernel
theorem dX9_now_44 : decode cX9_now 44 = .ok (.ireturn, 1) := by decide +kernel
theorem dX9_now_45 : decode cX9_now 45 = .ok (.aload_n 0, 1) := by decide +kernel
theorem dX9_now_46 : decode cX9_now 46 = .ok (.getfield 12, 3) := by decide +kernel
theorem dX9_now_49 : decode cX9_now 49 = .ok (.iconst 2, 1) := by decide +kernel
theorem dX9_now_50 : decode cX9_now 50 = .ok (.invokevirtual 217, 3) := by decide +kernel
theorem dX9_now_53 : decode cX9_now 53 = .ok (.ireturn, 1) := by decide +kernel
theorem dX9_now_54 : decode cX9_now 54 = .ok (.aload_n 0, 1) := by decide +kernel
theorem dX9_now_55 : decode cX9_now 55 = .ok (.getfield 12, 3) := by decide +kernel
theorem dX9_now_58 : decode cX9_now 58 = .ok (.invokevirtual 220, 3) := by decide +kernel
theorem dX9_now_61 : decode cX9_now 61 = .ok (.ireturn, 1) := by decide +kernel
theorem dX9_now_62 : decode cX9_now 62 = .ok (.aload_n 0, 1) := by decide +kernel
theorem dX9_now_63 : decode cX9_now 63 = .ok (.getfield 12, 3) := by decide +kernel
theorem dX9_now_66 : decode cX9_now 66 = .ok (.invokevirtual 223, 3) := by decide +kernel
theorem dX9_now_69 : decode cX9_now 69 = .ok (.ireturn, 1) := by decide +kernel
theorem dX9_now_70 : decode cX9_now 70 = .ok (.aload_n 0, 1) := by decide +kernel
theorem dX9_now_71 : decode cX9_now 71 = .ok (.getfield 12, 3) := by decide +kernel
theorem dX9_now_74 : decode cX9_now 74 = .ok (.invokevirtual 226, 3) := by decide +kernel
theorem dX9_now_77 : decode cX9_now 77 = .ok (.ireturn, 1) := by decide +kernel
theorem dX9_now_78 : decode cX9_now 78 = .ok (.aload_n 0, 1) := by decide +kernel
theorem dX9_now_79 : decode cX9_now 79 = .ok (.ldc 56, 2) := by decide +kernel
theorem dX9_now_81 : decode cX9_now 81 = .ok (.invokevirtual 57, 3) := by decide +kernel
theorem dX9_now_84 : decode cX9_now 84 = .ok (.ireturn, 1) := by decide +kernel
theorem dX9_round_0 : decode cX9_round 0 = .ok (.aload_n 0, 1) := by decide +kernel
theorem dX9_round_1 : decode cX9_round 1 = .ok (.iload_n 1, 1) := by decide +kernel
theorem dX9_round_2 : decode cX9_round 2 = .ok (.iload_n 2, 1) := by decide +kernel
theorem dX9_round_3 : decode cX9_round 3 = .ok (.invokevirtual 229, 3) := by decide +kernel
theorem dX9_round_6 : decode cX9_round 6 = .ok (.istore_n 3, 1) := by decide +kernel
theorem dX9_round_7 : decode cX9_round 7 = .ok (.iload_n 3, 1) := by decide +kernel
theorem dX9_round_8 : decode cX9_round 8 = .ok (.ifCond .eq 9, 3) := by decide +kernel
theorem dX9_round_11 : decode cX9_round 11 = .ok (.aload_n 0, 1) := by decide +kernel
theorem dX9_round_12 : decode cX9_round 12 = .ok (.iload_n 3, 1) := by decide +kernel
theorem dX9_round_13 : decode cX9_round 13 = .ok (.invokevirtual 57, 3) := by decide +kernel
theorem dX9_round_16 : decode cX9_round 16 = .ok (.ireturn, 1) := by decide +kernel
theorem dX9_round_17 : decode cX9_round 17 = .ok (.aload_n 0, 1) := by decide +kernel
theorem dX9_round_18 : decode cX9_round 18 = .ok (.aload_n 0, 1) := by decide +kernel
theorem dX9_round_19 : decode cX9_round 19 = .ok (.aload_n 0, 1) := by decide +kernel
theorem dX9_round_20 : decode cX9_round 20 = .ok (.getfield 12, 3) := by decide +kernel
theorem dX9_round_23 : decode cX9_round 23 = .ok (.iload_n 1, 1) := by decide +kernel
theorem dX9_round_24 : decode cX9_round 24 = .ok (.iload_n 2, 1) := by decide +kernel
theorem dX9_round_25 : decode cX9_round 25 = .ok (.invokevirtual 232, 3) := by decide +kernel
theorem dX9_round_28 : decode cX9_round 28 = .ok (.invokevirtual 165, 3) := by decide +kernel
theorem dX9_round_31 : decode cX9_round 31 = .ok (.ireturn, 1) := by decide +kernel
theorem dX9_gets_0 : decode cX9_gets 0 = .ok (.aload_n 0, 1) := by decide +kernel
theorem dX9_gets_1 : decode cX9_gets 1 = .ok (.getfield 12, 3) := by decide +kernel
theorem dX9_gets_4 : decode cX9_gets 4 = .ok (.iload_n 1, 1) := by decide +kernel
theorem dX9_gets_5 : decode cX9_gets 5 = .ok (.invokevirtual 70, 3) := by decide +kernel
theorem dX9_gets_8 : decode cX9_gets 8 = .ok (.ifCond .eq 11, 3) := by decide +kernel
theorem dX9_gets_11 : decode cX9_gets 11 = .ok (.aload_n 0, 1) := by decide +kernel
theorem dX9_gets_12 : decode cX9_gets 12 = .ok (.iload_n 2, 1) := by decide +kernel
theorem dX9_gets_13 : decode cX9_gets 13 = .ok (.invokevirtual 236, 3) := by decide +kernel
theorem dX9_gets_16 : decode cX9_gets 16 = .ok (.ifCond .ne 10, 3) := by decide +kernel
theorem dX9_gets_19 : decode cX9_gets 19 = .ok (.aload_n 0, 1) := by decide +kernel
theorem dX9_gets_20 : decode cX9_gets 20 = .ok (.ldc 56, 2) := by decide +kernel
theorem dX9_gets_22 : decode cX9_gets 22 = .ok (.invokevirtual 57, 3) := by decide +kernel
theorem dX9_gets_25 : decode cX9_gets 25 = .ok (.ireturn, 1) := by decide +kernel
theorem dX9_gets_26 : decode cX9_gets 26 = .ok (.iconst 0, 1) := by decide +kernel
theorem dX9_gets_27 : decode cX9_gets 27 = .ok (.istore_n 3, 1) := by decide +kernel
theorem dX9_gets_28 : decode cX9_gets 28 = .ok (.iload_n 3, 1) := by decide +kernel
theorem dX9_gets_29 : decode cX9_gets 29 = .ok (.aload_n 0, 1) := by decide +kernel
theorem dX9_gets_30 : decode cX9_gets 30 = .ok (.getfield 12, 3) := by decide +kernel
theorem dX9_gets_33 : decode cX9_gets 33 = .ok (.getfield 132, 3) := by decide +kernel
theorem dX9_gets_36 : decode cX9_gets 36 = .ok (.if_icmp .ge 37, 3) := by decide +kernel
theorem dX9_gets_39 : decode cX9_gets 39 = .ok (.iload_n 2, 1) := by decide +kernel
theorem dX9_gets_40 : decode cX9_gets 40 = .ok (.iload_n 3, 1) := by decide +kernel
theorem dX9_gets_41 : decode cX9_gets 41 = .ok (.invokestatic 239, 3) := by decide +kernel
theorem dX9_gets_44 : decode cX9_gets 44 = .ok (.ifCond .eq 23, 3) := by decide +kernel
theorem dX9_gets_47 : decode cX9_gets 47 = .ok (.aload_n 0, 1) := by decide +kernel
theorem dX9_gets_48 : decode cX9_gets 48 = .ok (.getfield 12, 3) := by decide +kernel
theorem dX9_gets_51 : decode cX9_gets 51 = .ok (.iload_n 3, 1) := by decide +kernel
theorem dX9_gets_52 : decode cX9_gets 52 = .ok (.invokevirtual 162, 3) := by decide +kernel
theorem dX9_gets_55 : decode cX9_gets 55 = .ok (.ldc 195, 2) := by decide +kernel
theorem dX9_gets_57 : decode cX9_gets 57 = .ok (.if_icmp .lt 10, 3) := by decide +kernel
theorem dX9_gets_60 : decode cX9_gets 60 = .ok (.aload_n 0, 1) := by decide +kernel
theorem dX9_gets_61 : decode cX9_gets 61 = .ok (.ldc 196, 2) := by decide +kernel
theorem dX9_gets_63 : decode cX9_gets 63 = .ok (.invokevirtual 57, 3) := by decide +kernel
theorem dX9_gets_66 : decode cX9_gets 66 = .ok (.ireturn, 1) := by decide +kernel
theorem dX9_gets_67 : decode cX9_gets 67 = .ok (.iinc 3 1, 3) := by decide +kernel
theorem dX9_gets_70 : decode cX9_gets 70 = .ok (.goto (-42), 3) := by decide +kernel
theorem dX9_gets_73 : decode cX9_gets 73 = .ok (.aload_n 0, 1) := by decide +kernel
theorem dX9_gets_74 : decode cX9_gets 74 = .ok (.getfield 12, 3) := by decide +kernel
theorem dX9_gets_77 : decode cX9_gets 77 = .ok (.iload_n 1, 1) := by decide +kernel
theorem dX9_gets_78 : decode cX9_gets 78 = .ok (.iload_n 2, 1) := by decide +kernel
theorem dX9_gets_79 : decode cX9_gets 79 = .ok (.invokevirtual 242, 3) := by decide +kernel
theorem dX9_gets_82 : decode cX9_gets 82 = .ok (.ireturn, 1) := by decide +kernel
theorem dX9_cheapest_0 : decode cX9_cheapest 0 = .ok (.aload_n 0, 1) := by decide +kernel
theorem dX9_cheapest_1 : decode cX9_cheapest 1 = .ok (.iload_n 1, 1) := by decide +kernel
theorem dX9_cheapest_2 : decode cX9_cheapest 2 = .ok (.iload_n 2, 1) := by decide +kernel
theorem dX9_cheapest_3 : decode cX9_cheapest 3 = .ok (.invokevirtual 245, 3) := by decide +kernel
theorem dX9_cheapest_6 : decode cX9_cheapest 6 = .ok (.istore_n 3, 1) := by decide +kernel
theorem dX9_cheapest_7 : decode cX9_cheapest 7 = .ok (.iload_n 3, 1) := by decide +kernel
theorem dX9_cheapest_8 : decode cX9_cheapest 8 = .ok (.ifCond .eq 9, 3) := by decide +kernel
theorem dX9_cheapest_11 : decode cX9_cheapest 11 = .ok (.aload_n 0, 1) := by decide +kernel
theorem dX9_cheapest_12 : decode cX9_cheapest 12 = .ok (.iload_n 3, 1) := by decide +kernel
theorem dX9_cheapest_13 : decode cX9_cheapest 13 = .ok (.invokevirtual 57, 3) := by decide +kernel
theorem dX9_cheapest_16 : decode cX9_cheapest 16 = .ok (.ireturn, 1) := by decide +kernel
theorem dX9_cheapest_17 : decode cX9_cheapest 17 = .ok (.aload_n 0, 1) := by decide +kernel
theorem dX9_cheapest_18 : decode cX9_cheapest 18 = .ok (.aload_n 0, 1) := by decide +kernel
theorem dX9_cheapest_19 : decode cX9_cheapest 19 = .ok (.iload_n 1, 1) := by decide +kernel
theorem dX9_cheapest_20 : decode cX9_cheapest 20 = .ok (.iload_n 2, 1) := by decide +kernel
theorem dX9_cheapest_21 : decode cX9_cheapest 21 = .ok (.invokevirtual 248, 3) := by decide +kernel
theorem dX9_cheapest_24 : decode cX9_cheapest 24 = .ok (.sipush 256, 3) := by decide +kernel
theorem dX9_cheapest_27 : decode cX9_cheapest 27 = .ok (.idiv, 1) := by decide +kernel
theorem dX9_cheapest_28 : decode cX9_cheapest 28 = .ok (.invokevirtual 165, 3) := by decide +kernel
theorem dX9_cheapest_31 : decode cX9_cheapest 31 = .ok (.ireturn, 1) := by decide +kernel
theorem dX9_which_0 : decode cX9_which 0 = .ok (.aload_n 0, 1) := by decide +kernel
theorem dX9_which_1 : decode cX9_which 1 = .ok (.iload_n 1, 1) := by decide +kernel
theorem dX9_which_2 : decode cX9_which 2 = .ok (.iload_n 2, 1) := by decide +kernel
theorem dX9_which_3 : decode cX9_which 3 = .ok (.invokevirtual 245, 3) := by decide +kernel
theorem dX9_which_6 : decode cX9_which 6 = .ok (.istore_n 3, 1) := by decide +kernel
theorem dX9_which_7 : decode cX9_which 7 = .ok (.iload_n 3, 1) := by decide +kernel
theorem dX9_which_8 : decode cX9_which 8 = .ok (.ifCond .eq 9, 3) := by decide +kernel
theorem dX9_which_11 : decode cX9_which 11 = .ok (.aload_n 0, 1) := by decide +kernel
theorem dX9_which_12 : decode cX9_which 12 = .ok (.iload_n 3, 1) := by decide +kernel
theorem dX9_which_13 : decode cX9_which 13 = .ok (.invokevirtual 57, 3) := by decide +kernel
theorem dX9_which_16 : decode cX9_which 16 = .ok (.ireturn, 1) := by decide +kernel
theorem dX9_which_17 : decode cX9_which 17 = .ok (.aload_n 0, 1) := by decide +kernel
theorem dX9_which_18 : decode cX9_which 18 = .ok (.aload_n 0, 1) := by decide +kernel
theorem dX9_which_19 : decode cX9_which 19 = .ok (.iload_n 1, 1) := by decide +kernel
theorem dX9_which_20 : decode cX9_which 20 = .ok (.iload_n 2, 1) := by decide +kernel
theorem dX9_which_21 : decode cX9_which 21 = .ok (.invokevirtual 248, 3) := by decide +kernel
theorem dX9_which_24 : decode cX9_which 24 = .ok (.invokevirtual 251, 3) := by decide +kernel
theorem dX9_which_27 : decode cX9_which 27 = .ok (.ireturn, 1) := by decide +kernel
theorem dX9_who_0 : decode cX9_who 0 = .ok (.aload_n 0, 1) := by decide +kernel
theorem dX9_who_1 : decode cX9_who 1 = .ok (.iload_n 1, 1) := by decide +kernel
theorem dX9_who_2 : decode cX9_who 2 = .ok (.invokevirtual 236, 3) := by decide +kernel
theorem dX9_who_5 : decode cX9_who 5 = .ok (.ifCond .ne 10, 3) := by decide +kernel
theorem dX9_who_8 : decode cX9_who 8 = .ok (.aload_n 0, 1) := by decide +kernel
theorem dX9_who_9 : decode cX9_who 9 = .ok (.ldc 56, 2) := by decide +kernel
theorem dX9_who_11 : decode cX9_who 11 = .ok (.invokevirtual 57, 3) := by decide +kernel
theorem dX9_who_14 : decode cX9_who 14 = .ok (.ireturn, 1) := by decide +kernel
theorem dX9_who_15 : decode cX9_who 15 = .ok (.aload_n 0, 1) := by decide +kernel
theorem dX9_who_16 : decode cX9_who 16 = .ok (.getfield 12, 3) := by decide +kernel
theorem dX9_who_19 : decode cX9_who 19 = .ok (.iload_n 1, 1) := by decide +kernel
theorem dX9_who_20 : decode cX9_who 20 = .ok (.invokevirtual 254, 3) := by decide +kernel
theorem dX9_who_23 : decode cX9_who 23 = .ok (.ifCond .ne 10, 3) := by decide +kernel
theorem dX9_who_26 : decode cX9_who 26 = .ok (.aload_n 0, 1) := by decide +kernel
theorem dX9_who_27 : decode cX9_who 27 = .ok (.ldc 203, 2) := by decide +kernel
theorem dX9_who_29 : decode cX9_who 29 = .ok (.invokevirtual 57, 3) := by decide +kernel
theorem dX9_who_32 : decode cX9_who 32 = .ok (.ireturn, 1) := by decide +kernel
theorem dX9_who_33 : decode cX9_who 33 = .ok (.ldc_w 257, 3) := by decide +kernel
theorem dX9_who_36 : decode cX9_who 36 = .ok (.istore_n 2, 1) := by decide +kernel
theorem dX9_who_37 : decode cX9_who 37 = .ok (.iconst 0, 1) := by decide +kernel
theorem dX9_who_38 : decode cX9_who 38 = .ok (.istore_n 3, 1) := by decide +kernel
theorem dX9_who_39 : decode cX9_who 39 = .ok (.iload_n 3, 1) := by decide +kernel
theorem dX9_who_40 : decode cX9_who 40 = .ok (.aload_n 0, 1) := by decide +kernel
theorem dX9_who_41 : decode cX9_who 41 = .ok (.getfield 12, 3) := by decide +kernel
theorem dX9_who_44 : decode cX9_who 44 = .ok (.getfield 61, 3) := by decide +kernel
theorem dX9_who_47 : decode cX9_who 47 = .ok (.if_icmp .ge 41, 3) := by decide +kernel
theorem dX9_who_50 : decode cX9_who 50 = .ok (.aload_n 0, 1) := by decide +kernel
theorem dX9_who_51 : decode cX9_who 51 = .ok (.getfield 12, 3) := by decide +kernel
theorem dX9_who_54 : decode cX9_who 54 = .ok (.iload_n 3, 1) := by decide +kernel
theorem dX9_who_55 : decode cX9_who 55 = .ok (.invokevirtual 99, 3) := by decide +kernel
theorem dX9_who_58 : decode cX9_who 58 = .ok (.ifCond .ne 24, 3) := by decide +kernel
theorem dX9_who_61 : decode cX9_who 61 = .ok (.iload_n 2, 1) := by decide +kernel
theorem dX9_who_62 : decode cX9_who 62 = .ok (.aload_n 0, 1) := by decide +kernel
theorem dX9_who_63 : decode cX9_who 63 = .ok (.aload_n 0, 1) := by decide +kernel
theorem dX9_who_64 : decode cX9_who 64 = .ok (.getfield 12, 3) := by decide +kernel
theorem dX9_who_67 : decode cX9_who 67 = .ok (.iload_n 3, 1) := by decide +kernel
theorem dX9_who_68 : decode cX9_who 68 = .ok (.iload_n 1, 1) := by decide +kernel
theorem dX9_who_69 : decode cX9_who 69 = .ok (.invokevirtual 232, 3) := by decide +kernel
theorem dX9_who_72 : decode cX9_who 72 = .ok (.sipush 256, 3) := by decide +kernel
theorem dX9_who_75 : decode cX9_who 75 = .ok (.imul, 1) := by decide +kernel
theorem dX9_who_76 : decode cX9_who 76 = .ok (.iload_n 3, 1) := by decide +kernel
theorem dX9_who_77 : decode cX9_who 77 = .ok (.iadd, 1) := by decide +kernel
theorem dX9_who_78 : decode cX9_who 78 = .ok (.invokestatic 258, 3) := by decide +kernel
theorem dX9_who_81 : decode cX9_who 81 = .ok (.istore_n 2, 1) := by decide +kernel
theorem dX9_who_82 : decode cX9_who 82 = .ok (.iinc 3 1, 3) := by decide +kernel
theorem dX9_who_85 : decode cX9_who 85 = .ok (.goto (-46), 3) := by decide +kernel
theorem dX9_who_88 : decode cX9_who 88 = .ok (.aload_n 0, 1) := by decide +kernel
theorem dX9_who_89 : decode cX9_who 89 = .ok (.iload_n 2, 1) := by decide +kernel
theorem dX9_who_90 : decode cX9_who 90 = .ok (.invokevirtual 251, 3) := by decide +kernel
theorem dX9_who_93 : decode cX9_who 93 = .ok (.ireturn, 1) := by decide +kernel
theorem dX9_joined_0 : decode cX9_joined 0 = .ok (.aload_n 0, 1) := by decide +kernel
theorem dX9_joined_1 : decode cX9_joined 1 = .ok (.iload_n 1, 1) := by decide +kernel
theorem dX9_joined_2 : decode cX9_joined 2 = .ok (.iload_n 2, 1) := by decide +kernel
theorem dX9_joined_3 : decode cX9_joined 3 = .ok (.invokevirtual 229, 3) := by decide +kernel
theorem dX9_joined_6 : decode cX9_joined 6 = .ok (.istore_n 3, 1) := by decide +kernel
theorem dX9_joined_7 : decode cX9_joined 7 = .ok (.iload_n 3, 1) := by decide +kernel
theorem dX9_joined_8 : decode cX9_joined 8 = .ok (.ifCond .eq 9, 3) := by decide +kernel
theorem dX9_joined_11 : decode cX9_joined 11 = .ok (.aload_n 0, 1) := by decide +kernel
theorem dX9_joined_12 : decode cX9_joined 12 = .ok (.iload_n 3, 1) := by decide +kernel
theorem dX9_joined_13 : decode cX9_joined 13 = .ok (.invokevirtual 57, 3) := by decide +kernel
theorem dX9_joined_16 : decode cX9_joined 16 = .ok (.ireturn, 1) := by decide +kernel
theorem dX9_joined_17 : decode cX9_joined 17 = .ok (.aload_n 0, 1) := by decide +kernel
theorem dX9_joined_18 : decode cX9_joined 18 = .ok (.aload_n 0, 1) := by decide +kernel
theorem dX9_joined_19 : decode cX9_joined 19 = .ok (.getfield 12, 3) := by decide +kernel
theorem dX9_joined_22 : decode cX9_joined 22 = .ok (.iload_n 1, 1) := by decide +kernel
theorem dX9_joined_23 : decode cX9_joined 23 = .ok (.iload_n 2, 1) := by decide +kernel
theorem dX9_joined_24 : decode cX9_joined 24 = .ok (.invokevirtual 232, 3) := by decide +kernel
theorem dX9_joined_27 : decode cX9_joined 27 = .ok (.istore 4, 2) := by decide +kernel
theorem dX9_joined_29 : decode cX9_joined 29 = .ok (.iload 4, 2) := by decide +kernel
theorem dX9_joined_31 : decode cX9_joined 31 = .ok (.ldc 195, 2) := by decide +kernel
theorem dX9_joined_33 : decode cX9_joined 33 = .ok (.if_icmp .lt 10, 3) := by decide +kernel
theorem dX9_joined_36 : decode cX9_joined 36 = .ok (.aload_n 0, 1) := by decide +kernel
theorem dX9_joined_37 : decode cX9_joined 37 = .ok (.ldc 196, 2) := by decide +kernel
theorem dX9_joined_39 : decode cX9_joined 39 = .ok (.invokevirtual 57, 3) := by decide +kernel
theorem dX9_joined_42 : decode cX9_joined 42 = .ok (.ireturn, 1) := by decide +kernel
theorem dX9_joined_43 : decode cX9_joined 43 = .ok (.iconst 0, 1) := by decide +kernel
theorem dX9_joined_44 : decode cX9_joined 44 = .ok (.istore 5, 2) := by decide +kernel
theorem dX9_joined_46 : decode cX9_joined 46 = .ok (.iconst 0, 1) := by decide +kernel
theorem dX9_joined_47 : decode cX9_joined 47 = .ok (.istore 6, 2) := by decide +kernel
theorem dX9_joined_49 : decode cX9_joined 49 = .ok (.iload 6, 2) := by decide +kernel
theorem dX9_joined_51 : decode cX9_joined 51 = .ok (.aload_n 0, 1) := by decide +kernel
theorem dX9_joined_52 : decode cX9_joined 52 = .ok (.getfield 12, 3) := by decide +kernel
theorem dX9_joined_55 : decode cX9_joined 55 = .ok (.getfield 132, 3) := by decide +kernel
theorem dX9_joined_58 : decode cX9_joined 58 = .ok (.if_icmp .ge 56, 3) := by decide +kernel
theorem dX9_joined_61 : decode cX9_joined 61 = .ok (.iload_n 2, 1) := by decide +kernel
theorem dX9_joined_62 : decode cX9_joined 62 = .ok (.iload 6, 2) := by decide +kernel
theorem dX9_joined_64 : decode cX9_joined 64 = .ok (.invokestatic 239, 3) := by decide +kernel
theorem dX9_joined_67 : decode cX9_joined 67 = .ok (.ifCond .eq 41, 3) := by decide +kernel
theorem dX9_joined_70 : decode cX9_joined 70 = .ok (.iload 5, 2) := by decide +kernel
theorem dX9_joined_72 : decode cX9_joined 72 = .ok (.aload_n 0, 1) := by decide +kernel
theorem dX9_joined_73 : decode cX9_joined 73 = .ok (.getfield 25, 3) := by decide +kernel
theorem dX9_joined_76 : decode cX9_joined 76 = .ok (.iconst 1, 1) := by decide +kernel
theorem dX9_joined_77 : decode cX9_joined 77 = .ok (.iload 6, 2) := by decide +kernel
theorem dX9_joined_79 : decode cX9_joined 79 = .ok (.ishl, 1) := by decide +kernel
theorem dX9_joined_80 : decode cX9_joined 80 = .ok (.invokevirtual 263, 3) := by decide +kernel
theorem dX9_joined_83 : decode cX9_joined 83 = .ok (.aload_n 0, 1) := by decide +kernel
theorem dX9_joined_84 : decode cX9_joined 84 = .ok (.getfield 12, 3) := by decide +kernel
theorem dX9_joined_87 : decode cX9_joined 87 = .ok (.iload_n 1, 1) := by decide +kernel
theorem dX9_joined_88 : decode cX9_joined 88 = .ok (.aload_n 0, 1) := by decide +kernel
theorem dX9_joined_89 : decode cX9_joined 89 = .ok (.getfield 12, 3) := by decide +kernel
theorem dX9_joined_92 : decode cX9_joined 92 = .ok (.getfield 141, 3) := by decide +kernel
theorem dX9_joined_95 : decode cX9_joined 95 = .ok (.iload 6, 2) := by decide +kernel
theorem dX9_joined_97 : decode cX9_joined 97 = .ok (.aaload, 1) := by decide +kernel
theorem dX9_joined_98 : decode cX9_joined 98 = .ok (.getfield 153, 3) := by decide +kernel
theorem dX9_joined_101 : decode cX9_joined 101 = .ok (.invokevirtual 211, 3) := by decide +kernel
theorem dX9_joined_104 : decode cX9_joined 104 = .ok (.iadd, 1) := by decide +kernel
theorem dX9_joined_105 : decode cX9_joined 105 = .ok (.iadd, 1) := by decide +kernel
theorem dX9_joined_106 : decode cX9_joined 106 = .ok (.istore 5, 2) := by decide +kernel
theorem dX9_joined_108 : decode cX9_joined 108 = .ok (.iinc 6 1, 3) := by decide +kernel
theorem dX9_joined_111 : decode cX9_joined 111 = .ok (.goto (-62), 3) := by decide +kernel
theorem dX9_joined_114 : decode cX9_joined 114 = .ok (.iload 5, 2) := by decide +kernel
theorem dX9_joined_116 : decode cX9_joined 116 = .ok (.iload 4, 2) := by decide +kernel
theorem dX9_joined_118 : decode cX9_joined 118 = .ok (.isub, 1) := by decide +kernel
theorem dX9_joined_119 : decode cX9_joined 119 = .ok (.ireturn, 1) := by decide +kernel
theorem dX9_shared_0 : decode cX9_shared 0 = .ok (.aload_n 0, 1) := by decide +kernel
theorem dX9_shared_1 : decode cX9_shared 1 = .ok (.iload_n 1, 1) := by decide +kernel
theorem dX9_shared_2 : decode cX9_shared 2 = .ok (.iload_n 2, 1) := by decide +kernel
theorem dX9_shared_3 : decode cX9_shared 3 = .ok (.iload_n 3, 1) := by decide +kernel
theorem dX9_shared_4 : decode cX9_shared 4 = .ok (.invokevirtual 266, 3) := by decide +kernel
theorem dX9_shared_7 : decode cX9_shared 7 = .ok (.istore 4, 2) := by decide +kernel
theorem dX9_shared_9 : decode cX9_shared 9 = .ok (.iload 4, 2) := by decide +kernel
theorem dX9_shared_11 : decode cX9_shared 11 = .ok (.ifCond .eq 10, 3) := by decide +kernel
theorem dX9_shared_14 : decode cX9_shared 14 = .ok (.aload_n 0, 1) := by decide +kernel
theorem dX9_shared_15 : decode cX9_shared 15 = .ok (.iload 4, 2) := by decide +kernel
theorem dX9_shared_17 : decode cX9_shared 17 = .ok (.invokevirtual 57, 3) := by decide +kernel
theorem dX9_shared_20 : decode cX9_shared 20 = .ok (.ireturn, 1) := by decide +kernel
theorem dX9_shared_21 : decode cX9_shared 21 = .ok (.aload_n 0, 1) := by decide +kernel
theorem dX9_shared_22 : decode cX9_shared 22 = .ok (.aload_n 0, 1) := by decide +kernel
theorem dX9_shared_23 : decode cX9_shared 23 = .ok (.iload_n 1, 1) := by decide +kernel
theorem dX9_shared_24 : decode cX9_shared 24 = .ok (.iload_n 2, 1) := by decide +kernel
theorem dX9_shared_25 : decode cX9_shared 25 = .ok (.iload_n 3, 1) := by decide +kernel
theorem dX9_shared_26 : decode cX9_shared 26 = .ok (.invokevirtual 269, 3) := by decide +kernel
theorem dX9_shared_29 : decode cX9_shared 29 = .ok (.sipush 256, 3) := by decide +kernel
theorem dX9_shared_32 : decode cX9_shared 32 = .ok (.idiv, 1) := by decide +kernel
theorem dX9_shared_33 : decode cX9_shared 33 = .ok (.invokevirtual 165, 3) := by decide +kernel
theorem dX9_shared_36 : decode cX9_shared 36 = .ok (.ireturn, 1) := by decide +kernel
theorem dX9_part_0 : decode cX9_part 0 = .ok (.aload_n 0, 1) := by decide +kernel
theorem dX9_part_1 : decode cX9_part 1 = .ok (.iload_n 1, 1) := by decide +kernel
theorem dX9_part_2 : decode cX9_part 2 = .ok (.iload_n 2, 1) := by decide +kernel
theorem dX9_part_3 : decode cX9_part 3 = .ok (.iload_n 3, 1) := by decide +kernel
theorem dX9_part_4 : decode cX9_part 4 = .ok (.invokevirtual 266, 3) := by decide +kernel
theorem dX9_part_7 : decode cX9_part 7 = .ok (.istore 4, 2) := by decide +kernel
theorem dX9_part_9 : decode cX9_part 9 = .ok (.iload 4, 2) := by decide +kernel
theorem dX9_part_11 : decode cX9_part 11 = .ok (.ifCond .eq 10, 3) := by decide +kernel
theorem dX9_part_14 : decode cX9_part 14 = .ok (.aload_n 0, 1) := by decide +kernel
theorem dX9_part_15 : decode cX9_part 15 = .ok (.iload 4, 2) := by decide +kernel
theorem dX9_part_17 : decode cX9_part 17 = .ok (.invokevirtual 57, 3) := by decide +kernel
theorem dX9_part_20 : decode cX9_part 20 = .ok (.ireturn, 1) := by decide +kernel
theorem dX9_part_21 : decode cX9_part 21 = .ok (.aload_n 0, 1) := by decide +kernel
theorem dX9_part_22 : decode cX9_part 22 = .ok (.aload_n 0, 1) := by decide +kernel
theorem dX9_part_23 : decode cX9_part 23 = .ok (.iload_n 1, 1) := by decide +kernel
theorem dX9_part_24 : decode cX9_part 24 = .ok (.iload_n 2, 1) := by decide +kernel
theorem dX9_part_25 : decode cX9_part 25 = .ok (.iload_n 3, 1) := by decide +kernel
theorem dX9_part_26 : decode cX9_part 26 = .ok (.invokevirtual 269, 3) := by decide +kernel
theorem dX9_part_29 : decode cX9_part 29 = .ok (.invokevirtual 251, 3) := by decide +kernel
theorem dX9_part_32 : decode cX9_part 32 = .ok (.ireturn, 1) := by decide +kernel
theorem dX9_strength_0 : decode cX9_strength 0 = .ok (.aload_n 0, 1) := by decide +kernel
theorem dX9_strength_1 : decode cX9_strength 1 = .ok (.iload_n 1, 1) := by decide +kernel
theorem dX9_strength_2 : decode cX9_strength 2 = .ok (.iload_n 2, 1) := by decide +kernel
theorem dX9_strength_3 : decode cX9_strength 3 = .ok (.invokevirtual 229, 3) := by decide +kernel
theorem dX9_strength_6 : decode cX9_strength 6 = .ok (.istore_n 3, 1) := by decide +kernel
theorem dX9_strength_7 : decode cX9_strength 7 = .ok (.iload_n 3, 1) := by decide +kernel
theorem dX9_strength_8 : decode cX9_strength 8 = .ok (.ifCond .eq 9, 3) := by decide +kernel
theorem dX9_strength_11 : decode cX9_strength 11 = .ok (.aload_n 0, 1) := by decide +kernel
theorem dX9_strength_12 : decode cX9_strength 12 = .ok (.iload_n 3, 1) := by decide +kernel
theorem dX9_strength_13 : decode cX9_strength 13 = .ok (.invokevirtual 57, 3) := by decide +kernel
theorem dX9_strength_16 : decode cX9_strength 16 = .ok (.ireturn, 1) := by decide +kernel
theorem dX9_strength_17 : decode cX9_strength 17 = .ok (.aload_n 0, 1) := by decide +kernel
theorem dX9_strength_18 : decode cX9_strength 18 = .ok (.getfield 12, 3) := by decide +kernel
theorem dX9_strength_21 : decode cX9_strength 21 = .ok (.iload_n 1, 1) := by decide +kernel
theorem dX9_strength_22 : decode cX9_strength 22 = .ok (.iload_n 2, 1) := by decide +kernel
theorem dX9_strength_23 : decode cX9_strength 23 = .ok (.invokevirtual 272, 3) := by decide +kernel
theorem dX9_strength_26 : decode cX9_strength 26 = .ok (.ifCond .ne 10, 3) := by decide +kernel
theorem dX9_strength_29 : decode cX9_strength 29 = .ok (.aload_n 0, 1) := by decide +kernel
theorem dX9_strength_30 : decode cX9_strength 30 = .ok (.ldc 196, 2) := by decide +kernel
theorem dX9_strength_32 : decode cX9_strength 32 = .ok (.invokevirtual 57, 3) := by decide +kernel
theorem dX9_strength_35 : decode cX9_strength 35 = .ok (.ireturn, 1) := by decide +kernel
theorem dX9_strength_36 : decode cX9_strength 36 = .ok (.aload_n 0, 1) := by decide +kernel
theorem dX9_strength_37 : decode cX9_strength 37 = .ok (.getfield 12, 3) := by decide +kernel
theorem dX9_strength_40 : decode cX9_strength 40 = .ok (.iload_n 2, 1) := by decide +kernel
theorem dX9_strength_41 : decode cX9_strength 41 = .ok (.invokevirtual 275, 3) := by decide +kernel
theorem dX9_strength_44 : decode cX9_strength 44 = .ok (.istore 4, 2) := by decide +kernel
theorem dX9_strength_46 : decode cX9_strength 46 = .ok (.iconst 1, 1) := by decide +kernel
theorem dX9_strength_47 : decode cX9_strength 47 = .ok (.istore 5, 2) := by decide +kernel
theorem dX9_strength_49 : decode cX9_strength 49 = .ok (.iload 5, 2) := by decide +kernel
theorem dX9_strength_51 : decode cX9_strength 51 = .ok (.bipush 99, 2) := by decide +kernel
theorem dX9_strength_53 : decode cX9_strength 53 = .ok (.if_icmp .gt 34, 3) := by decide +kernel
theorem dX9_strength_56 : decode cX9_strength 56 = .ok (.aload_n 0, 1) := by decide +kernel
theorem dX9_strength_57 : decode cX9_strength 57 = .ok (.getfield 12, 3) := by decide +kernel
theorem dX9_strength_60 : decode cX9_strength 60 = .ok (.getfield 74, 3) := by decide +kernel
theorem dX9_strength_63 : decode cX9_strength 63 = .ok (.iload_n 1, 1) := by decide +kernel
theorem dX9_strength_64 : decode cX9_strength 64 = .ok (.aaload, 1) := by decide +kernel
theorem dX9_strength_65 : decode cX9_strength 65 = .ok (.getfield 78, 3) := by decide +kernel
theorem dX9_strength_68 : decode cX9_strength 68 = .ok (.iload 5, 2) := by decide +kernel
theorem dX9_strength_70 : decode cX9_strength 70 = .ok (.invokestatic 278, 3) := by decide +kernel
theorem dX9_strength_73 : decode cX9_strength 73 = .ok (.iload 4, 2) := by decide +kernel
theorem dX9_strength_75 : decode cX9_strength 75 = .ok (.if_icmp .lt 6, 3) := by decide +kernel
theorem dX9_strength_78 : decode cX9_strength 78 = .ok (.iload 5, 2) := by decide +kernel
theorem dX9_strength_80 : decode cX9_strength 80 = .ok (.ireturn, 1) := by decide +kernel
theorem dX9_strength_81 : decode cX9_strength 81 = .ok (.iinc 5 1, 3) := by decide +kernel
theorem dX9_strength_84 : decode cX9_strength 84 = .ok (.goto (-35), 3) := by decide +kernel
theorem dX9_strength_87 : decode cX9_strength 87 = .ok (.aload_n 0, 1) := by decide +kernel
theorem dX9_strength_88 : decode cX9_strength 88 = .ok (.ldc 196, 2) := by decide +kernel
theorem dX9_strength_90 : decode cX9_strength 90 = .ok (.invokevirtual 57, 3) := by decide +kernel
theorem dX9_strength_93 : decode cX9_strength 93 = .ok (.ireturn, 1) := by decide +kernel
theorem dX9_kindFor_0 : decode cX9_kindFor 0 = .ok (.aload_n 0, 1) := by decide +kernel
theorem dX9_kindFor_1 : decode cX9_kindFor 1 = .ok (.iload_n 1, 1) := by decide +kernel
theorem dX9_kindFor_2 : decode cX9_kindFor 2 = .ok (.iload_n 2, 1) := by decide +kernel
theorem dX9_kindFor_3 : decode cX9_kindFor 3 = .ok (.invokevirtual 229, 3) := by decide +kernel
theorem dX9_kindFor_6 : decode cX9_kindFor 6 = .ok (.istore_n 3, 1) := by decide +kernel
theorem dX9_kindFor_7 : decode cX9_kindFor 7 = .ok (.iload_n 3, 1) := by decide +kernel
theorem dX9_kindFor_8 : decode cX9_kindFor 8 = .ok (.ifCond .eq 9, 3) := by decide +kernel
theorem dX9_kindFor_11 : decode cX9_kindFor 11 = .ok (.aload_n 0, 1) := by decide +kernel
theorem dX9_kindFor_12 : decode cX9_kindFor 12 = .ok (.iload_n 3, 1) := by decide +kernel
theorem dX9_kindFor_13 : decode cX9_kindFor 13 = .ok (.invokevirtual 57, 3) := by decide +kernel
theorem dX9_kindFor_16 : decode cX9_kindFor 16 = .ok (.ireturn, 1) := by decide +kernel
theorem dX9_kindFor_17 : decode cX9_kindFor 17 = .ok (.ldc_w 257, 3) := by decide +kernel
theorem dX9_kindFor_20 : decode cX9_kindFor 20 = .ok (.istore 4, 2) := by decide +kernel
theorem dX9_kindFor_22 : decode cX9_kindFor 22 = .ok (.iconst 0, 1) := by decide +kernel
theorem dX9_kindFor_23 : decode cX9_kindFor 23 = .ok (.istore 5, 2) := by decide +kernel
theorem dX9_kindFor_25 : decode cX9_kindFor 25 = .ok (.iload 5, 2) := by decide +kernel
theorem dX9_kindFor_27 : decode cX9_kindFor 27 = .ok (.bipush 6, 2) := by decide +kernel
theorem dX9_kindFor_29 : decode cX9_kindFor 29 = .ok (.if_icmp .gt 46, 3) := by decide +kernel
theorem dX9_kindFor_32 : decode cX9_kindFor 32 = .ok (.aload_n 0, 1) := by decide +kernel
theorem dX9_kindFor_33 : decode cX9_kindFor 33 = .ok (.getfield 25, 3) := by decide +kernel
theorem dX9_kindFor_36 : decode cX9_kindFor 36 = .ok (.aload_n 0, 1) := by decide +kernel
theorem dX9_kindFor_37 : decode cX9_kindFor 37 = .ok (.getfield 12, 3) := by decide +kernel
theorem dX9_kindFor_40 : decode cX9_kindFor 40 = .ok (.iload_n 1, 1) := by decide +kernel
theorem dX9_kindFor_41 : decode cX9_kindFor 41 = .ok (.iload 5, 2) := by decide +kernel
theorem dX9_kindFor_43 : decode cX9_kindFor 43 = .ok (.iload_n 2, 1) := by decide +kernel
theorem dX9_kindFor_44 : decode cX9_kindFor 44 = .ok (.invokevirtual 280, 3) := by decide +kernel
theorem dX9_kindFor_47 : decode cX9_kindFor 47 = .ok (.iload 4, 2) := by decide +kernel
theorem dX9_kindFor_49 : decode cX9_kindFor 49 = .ok (.aload_n 0, 1) := by decide +kernel
theorem dX9_kindFor_50 : decode cX9_kindFor 50 = .ok (.getfield 25, 3) := by decide +kernel
theorem dX9_kindFor_53 : decode cX9_kindFor 53 = .ok (.iload_n 2, 1) := by decide +kernel
theorem dX9_kindFor_54 : decode cX9_kindFor 54 = .ok (.invokevirtual 263, 3) := by decide +kernel
theorem dX9_kindFor_57 : decode cX9_kindFor 57 = .ok (.sipush 256, 3) := by decide +kernel
theorem dX9_kindFor_60 : decode cX9_kindFor 60 = .ok (.imul, 1) := by decide +kernel
theorem dX9_kindFor_61 : decode cX9_kindFor 61 = .ok (.iload 5, 2) := by decide +kernel
theorem dX9_kindFor_63 : decode cX9_kindFor 63 = .ok (.iadd, 1) := by decide +kernel
theorem dX9_kindFor_64 : decode cX9_kindFor 64 = .ok (.invokestatic 258, 3) := by decide +kernel
theorem dX9_kindFor_67 : decode cX9_kindFor 67 = .ok (.istore 4, 2) := by decide +kernel
theorem dX9_kindFor_69 : decode cX9_kindFor 69 = .ok (.iinc 5 1, 3) := by decide +kernel
theorem dX9_kindFor_72 : decode cX9_kindFor 72 = .ok (.goto (-47), 3) := by decide +kernel
theorem dX9_kindFor_75 : decode cX9_kindFor 75 = .ok (.aload_n 0, 1) := by decide +kernel
theorem dX9_kindFor_76 : decode cX9_kindFor 76 = .ok (.iload 4, 2) := by decide +kernel
theorem dX9_kindFor_78 : decode cX9_kindFor 78 = .ok (.invokevirtual 251, 3) := by decide +kernel
theorem dX9_kindFor_81 : decode cX9_kindFor 81 = .ok (.ireturn, 1) := by decide +kernel
theorem dX9_bridge_0 : decode cX9_bridge 0 = .ok (.aload_n 0, 1) := by decide +kernel
theorem dX9_bridge_1 : decode cX9_bridge 1 = .ok (.iload_n 1, 1) := by decide +kernel
theorem dX9_bridge_2 : decode cX9_bridge 2 = .ok (.iload_n 2, 1) := by decide +kernel
theorem dX9_bridge_3 : decode cX9_bridge 3 = .ok (.invokevirtual 229, 3) := by decide +kernel
theorem dX9_bridge_6 : decode cX9_bridge 6 = .ok (.istore_n 3, 1) := by decide +kernel
theorem dX9_bridge_7 : decode cX9_bridge 7 = .ok (.iload_n 3, 1) := by decide +kernel
theorem dX9_bridge_8 : decode cX9_bridge 8 = .ok (.ifCond .eq 9, 3) := by decide +kernel
theorem dX9_bridge_11 : decode cX9_bridge 11 = .ok (.aload_n 0, 1) := by decide +kernel
theorem dX9_bridge_12 : decode cX9_bridge 12 = .ok (.iload_n 3, 1) := by decide +kernel
theorem dX9_bridge_13 : decode cX9_bridge 13 = .ok (.invokevirtual 57, 3) := by decide +kernel
theorem dX9_bridge_16 : decode cX9_bridge 16 = .ok (.ireturn, 1) := by decide +kernel
theorem dX9_bridge_17 : decode cX9_bridge 17 = .ok (.aload_n 0, 1) := by decide +kernel
theorem dX9_bridge_18 : decode cX9_bridge 18 = .ok (.aload_n 0, 1) := by decide +kernel
theorem dX9_bridge_19 : decode cX9_bridge 19 = .ok (.iload_n 1, 1) := by decide +kernel
theorem dX9_bridge_20 : decode cX9_bridge 20 = .ok (.iload_n 2, 1) := by decide +kernel
theorem dX9_bridge_21 : decode cX9_bridge 21 = .ok (.invokevirtual 284, 3) := by decide +kernel
theorem dX9_bridge_24 : decode cX9_bridge 24 = .ok (.invokevirtual 251, 3) := by decide +kernel
theorem dX9_bridge_27 : decode cX9_bridge 27 = .ok (.ireturn, 1) := by decide +kernel
theorem dX9_worth_0 : decode cX9_worth 0 = .ok (.aload_n 0, 1) := by decide +kernel
theorem dX9_worth_1 : decode cX9_worth 1 = .ok (.iload_n 1, 1) := by decide +kernel
theorem dX9_worth_2 : decode cX9_worth 2 = .ok (.iload_n 2, 1) := by decide +kernel
theorem dX9_worth_3 : decode cX9_worth 3 = .ok (.invokevirtual 229, 3) := by decide +kernel
theorem dX9_worth_6 : decode cX9_worth 6 = .ok (.istore_n 3, 1) := by decide +kernel
theorem dX9_worth_7 : decode cX9_worth 7 = .ok (.iload_n 3, 1) := by decide +kernel
theorem dX9_worth_8 : decode cX9_worth 8 = .ok (.ifCond .eq 9, 3) := by decide +kernel
theorem dX9_worth_11 : decode cX9_worth 11 = .ok (.aload_n 0, 1) := by decide +kernel
theorem dX9_worth_12 : decode cX9_worth 12 = .ok (.iload_n 3, 1) := by decide +kernel
theorem dX9_worth_13 : decode cX9_worth 13 = .ok (.invokevirtual 57, 3) := by decide +kernel
theorem dX9_worth_16 : decode cX9_worth 16 = .ok (.ireturn, 1) := by decide +kernel
theorem dX9_worth_17 : decode cX9_worth 17 = .ok (.aload_n 0, 1) := by decide +kernel
theorem dX9_worth_18 : decode cX9_worth 18 = .ok (.iload_n 1, 1) := by decide +kernel
theorem dX9_worth_19 : decode cX9_worth 19 = .ok (.iload_n 2, 1) := by decide +kernel
theorem dX9_worth_20 : decode cX9_worth 20 = .ok (.invokevirtual 284, 3) := by decide +kernel
theorem dX9_worth_23 : decode cX9_worth 23 = .ok (.sipush 256, 3) := by decide +kernel
theorem dX9_worth_26 : decode cX9_worth 26 = .ok (.idiv, 1) := by decide +kernel
theorem dX9_worth_27 : decode cX9_worth 27 = .ok (.istore 4, 2) := by decide +kernel
theorem dX9_worth_29 : decode cX9_worth 29 = .ok (.aload_n 0, 1) := by decide +kernel
theorem dX9_worth_30 : decode cX9_worth 30 = .ok (.aload_n 0, 1) := by decide +kernel
theorem dX9_worth_31 : decode cX9_worth 31 = .ok (.getfield 12, 3) := by decide +kernel
theorem dX9_worth_34 : decode cX9_worth 34 = .ok (.iload_n 1, 1) := by decide +kernel
theorem dX9_worth_35 : decode cX9_worth 35 = .ok (.iload_n 2, 1) := by decide +kernel
theorem dX9_worth_36 : decode cX9_worth 36 = .ok (.invokevirtual 232, 3) := by decide +kernel
theorem dX9_worth_39 : decode cX9_worth 39 = .ok (.istore 5, 2) := by decide +kernel
theorem dX9_worth_41 : decode cX9_worth 41 = .ok (.iload 4, 2) := by decide +kernel
theorem dX9_worth_43 : decode cX9_worth 43 = .ok (.ldc 195, 2) := by decide +kernel
theorem dX9_worth_45 : decode cX9_worth 45 = .ok (.if_icmp .ge 10, 3) := by decide +kernel
theorem dX9_worth_48 : decode cX9_worth 48 = .ok (.iload 5, 2) := by decide +kernel
theorem dX9_worth_50 : decode cX9_worth 50 = .ok (.ldc 195, 2) := by decide +kernel
theorem dX9_worth_52 : decode cX9_worth 52 = .ok (.if_icmp .lt 10, 3) := by decide +kernel
theorem dX9_worth_55 : decode cX9_worth 55 = .ok (.aload_n 0, 1) := by decide +kernel
theorem dX9_worth_56 : decode cX9_worth 56 = .ok (.ldc 196, 2) := by decide +kernel
theorem dX9_worth_58 : decode cX9_worth 58 = .ok (.invokevirtual 57, 3) := by decide +kernel
theorem dX9_worth_61 : decode cX9_worth 61 = .ok (.ireturn, 1) := by decide +kernel
theorem dX9_worth_62 : decode cX9_worth 62 = .ok (.iload 5, 2) := by decide +kernel
theorem dX9_worth_64 : decode cX9_worth 64 = .ok (.iload 4, 2) := by decide +kernel
theorem dX9_worth_66 : decode cX9_worth 66 = .ok (.isub, 1) := by decide +kernel
theorem dX9_worth_67 : decode cX9_worth 67 = .ok (.ireturn, 1) := by decide +kernel
theorem dX9_reach_0 : decode cX9_reach 0 = .ok (.aload_n 0, 1) := by decide +kernel
theorem dX9_reach_1 : decode cX9_reach 1 = .ok (.getfield 12, 3) := by decide +kernel
theorem dX9_reach_4 : decode cX9_reach 4 = .ok (.iload_n 1, 1) := by decide +kernel
theorem dX9_reach_5 : decode cX9_reach 5 = .ok (.invokevirtual 70, 3) := by decide +kernel
theorem dX9_reach_8 : decode cX9_reach 8 = .ok (.ifCond .ne 10, 3) := by decide +kernel
theorem dX9_reach_11 : decode cX9_reach 11 = .ok (.aload_n 0, 1) := by decide +kernel
theorem dX9_reach_12 : decode cX9_reach 12 = .ok (.ldc 56, 2) := by decide +kernel
theorem dX9_reach_14 : decode cX9_reach 14 = .ok (.invokevirtual 57, 3) := by decide +kernel
theorem dX9_reach_17 : decode cX9_reach 17 = .ok (.ireturn, 1) := by decide +kernel
theorem dX9_reach_18 : decode cX9_reach 18 = .ok (.iconst 0, 1) := by decide +kernel
theorem dX9_reach_19 : decode cX9_reach 19 = .ok (.istore_n 2, 1) := by decide +kernel
theorem dX9_reach_20 : decode cX9_reach 20 = .ok (.iconst 0, 1) := by decide +kernel
theorem dX9_reach_21 : decode cX9_reach 21 = .ok (.istore_n 3, 1) := by decide +kernel
theorem dX9_reach_22 : decode cX9_reach 22 = .ok (.iload_n 3, 1) := by decide +kernel
theorem dX9_reach_23 : decode cX9_reach 23 = .ok (.bipush 7, 2) := by decide +kernel
theorem dX9_reach_25 : decode cX9_reach 25 = .ok (.if_icmp .ge 29, 3) := by decide +kernel
theorem dX9_reach_28 : decode cX9_reach 28 = .ok (.aload_n 0, 1) := by decide +kernel
theorem dX9_reach_29 : decode cX9_reach 29 = .ok (.getfield 12, 3) := by decide +kernel
theorem dX9_reach_32 : decode cX9_reach 32 = .ok (.iload_n 1, 1) := by decide +kernel
theorem dX9_reach_33 : decode cX9_reach 33 = .ok (.iload_n 3, 1) := by decide +kernel
theorem dX9_reach_34 : decode cX9_reach 34 = .ok (.invokevirtual 211, 3) := by decide +kernel
theorem dX9_reach_37 : decode cX9_reach 37 = .ok (.ldc 195, 2) := by decide +kernel
theorem dX9_reach_39 : decode cX9_reach 39 = .ok (.if_icmp .ge 9, 3) := by decide +kernel
theorem dX9_reach_42 : decode cX9_reach 42 = .ok (.iload_n 2, 1) := by decide +kernel
theorem dX9_reach_43 : decode cX9_reach 43 = .ok (.iconst 1, 1) := by decide +kernel
theorem dX9_reach_44 : decode cX9_reach 44 = .ok (.iload_n 3, 1) := by decide +kernel
theorem dX9_reach_45 : decode cX9_reach 45 = .ok (.ishl, 1) := by decide +kernel
theorem dX9_reach_46 : decode cX9_reach 46 = .ok (.ior, 1) := by decide +kernel
theorem dX9_reach_47 : decode cX9_reach 47 = .ok (.istore_n 2, 1) := by decide +kernel
theorem dX9_reach_48 : decode cX9_reach 48 = .ok (.iinc 3 1, 3) := by decide +kernel
theorem dX9_reach_51 : decode cX9_reach 51 = .ok (.goto (-29), 3) := by decide +kernel
theorem dX9_reach_54 : decode cX9_reach 54 = .ok (.iload_n 2, 1) := by decide +kernel
theorem dX9_reach_55 : decode cX9_reach 55 = .ok (.ireturn, 1) := by decide +kernel
theorem dX9_middle_0 : decode cX9_middle 0 = .ok (.aload_n 0, 1) := by decide +kernel
theorem dX9_middle_1 : decode cX9_middle 1 = .ok (.getfield 12, 3) := by decide +kernel
theorem dX9_middle_4 : decode cX9_middle 4 = .ok (.iload_n 1, 1) := by decide +kernel
theorem dX9_middle_5 : decode cX9_middle 5 = .ok (.invokevirtual 70, 3) := by decide +kernel
theorem dX9_middle_8 : decode cX9_middle 8 = .ok (.ifCond .ne 10, 3) := by decide +kernel
theorem dX9_middle_11 : decode cX9_middle 11 = .ok (.aload_n 0, 1) := by decide +kernel
theorem dX9_middle_12 : decode cX9_middle 12 = .ok (.ldc 56, 2) := by decide +kernel
theorem dX9_middle_14 : decode cX9_middle 14 = .ok (.invokevirtual 57, 3) := by decide +kernel
theorem dX9_middle_17 : decode cX9_middle 17 = .ok (.ireturn, 1) := by decide +kernel
theorem dX9_middle_18 : decode cX9_middle 18 = .ok (.ldc_w 257, 3) := by decide +kernel
theorem dX9_middle_21 : decode cX9_middle 21 = .ok (.istore_n 2, 1) := by decide +kernel
theorem dX9_middle_22 : decode cX9_middle 22 = .ok (.iconst 0, 1) := by decide +kernel
theorem dX9_middle_23 : decode cX9_middle 23 = .ok (.istore_n 3, 1) := by decide +kernel
theorem dX9_middle_24 : decode cX9_middle 24 = .ok (.iload_n 3, 1) := by decide +kernel
theorem dX9_middle_25 : decode cX9_middle 25 = .ok (.bipush 7, 2) := by decide +kernel
theorem dX9_middle_27 : decode cX9_middle 27 = .ok (.if_icmp .ge 57, 3) := by decide +kernel
theorem dX9_middle_30 : decode cX9_middle 30 = .ok (.aload_n 0, 1) := by decide +kernel
theorem dX9_middle_31 : decode cX9_middle 31 = .ok (.getfield 12, 3) := by decide +kernel
theorem dX9_middle_34 : decode cX9_middle 34 = .ok (.getfield 112, 3) := by decide +kernel
theorem dX9_middle_37 : decode cX9_middle 37 = .ok (.iload_n 3, 1) := by decide +kernel
theorem dX9_middle_38 : decode cX9_middle 38 = .ok (.invokevirtual 287, 3) := by decide +kernel
theorem dX9_middle_41 : decode cX9_middle 41 = .ok (.ifCond .eq 37, 3) := by decide +kernel
theorem dX9_middle_44 : decode cX9_middle 44 = .ok (.iload_n 2, 1) := by decide +kernel
theorem dX9_middle_45 : decode cX9_middle 45 = .ok (.aload_n 0, 1) := by decide +kernel
theorem dX9_middle_46 : decode cX9_middle 46 = .ok (.getfield 12, 3) := by decide +kernel
theorem dX9_middle_49 : decode cX9_middle 49 = .ok (.getfield 112, 3) := by decide +kernel
theorem dX9_middle_52 : decode cX9_middle 52 = .ok (.aload_n 0, 1) := by decide +kernel
theorem dX9_middle_53 : decode cX9_middle 53 = .ok (.getfield 12, 3) := by decide +kernel
theorem dX9_middle_56 : decode cX9_middle 56 = .ok (.getfield 74, 3) := by decide +kernel
theorem dX9_middle_59 : decode cX9_middle 59 = .ok (.iload_n 1, 1) := by decide +kernel
theorem dX9_middle_60 : decode cX9_middle 60 = .ok (.aaload, 1) := by decide +kernel
theorem dX9_middle_61 : decode cX9_middle 61 = .ok (.getfield 78, 3) := by decide +kernel
theorem dX9_middle_64 : decode cX9_middle 64 = .ok (.iload_n 3, 1) := by decide +kernel
theorem dX9_middle_65 : decode cX9_middle 65 = .ok (.invokevirtual 290, 3) := by decide +kernel
theorem dX9_middle_68 : decode cX9_middle 68 = .ok (.sipush 256, 3) := by decide +kernel
theorem dX9_middle_71 : decode cX9_middle 71 = .ok (.imul, 1) := by decide +kernel
theorem dX9_middle_72 : decode cX9_middle 72 = .ok (.iload_n 3, 1) := by decide +kernel
theorem dX9_middle_73 : decode cX9_middle 73 = .ok (.iadd, 1) := by decide +kernel
theorem dX9_middle_74 : decode cX9_middle 74 = .ok (.invokestatic 258, 3) := by decide +kernel
theorem dX9_middle_77 : decode cX9_middle 77 = .ok (.istore_n 2, 1) := by decide +kernel
theorem dX9_middle_78 : decode cX9_middle 78 = .ok (.iinc 3 1, 3) := by decide +kernel
theorem dX9_middle_81 : decode cX9_middle 81 = .ok (.goto (-57), 3) := by decide +kernel
theorem dX9_middle_84 : decode cX9_middle 84 = .ok (.aload_n 0, 1) := by decide +kernel
theorem dX9_middle_85 : decode cX9_middle 85 = .ok (.iload_n 2, 1) := by decide +kernel
theorem dX9_middle_86 : decode cX9_middle 86 = .ok (.invokevirtual 251, 3) := by decide +kernel
theorem dX9_middle_89 : decode cX9_middle 89 = .ok (.ireturn, 1) := by decide +kernel
theorem dX9_heavy_0 : decode cX9_heavy 0 = .ok (.aload_n 0, 1) := by decide +kernel
theorem dX9_heavy_1 : decode cX9_heavy 1 = .ok (.getfield 12, 3) := by decide +kernel
theorem dX9_heavy_4 : decode cX9_heavy 4 = .ok (.iload_n 1, 1) := by decide +kernel
theorem dX9_heavy_5 : decode cX9_heavy 5 = .ok (.invokevirtual 70, 3) := by decide +kernel
theorem dX9_heavy_8 : decode cX9_heavy 8 = .ok (.ifCond .eq 11, 3) := by decide +kernel
theorem dX9_heavy_11 : decode cX9_heavy 11 = .ok (.aload_n 0, 1) := by decide +kernel
theorem dX9_heavy_12 : decode cX9_heavy 12 = .ok (.iload_n 2, 1) := by decide +kernel
theorem dX9_heavy_13 : decode cX9_heavy 13 = .ok (.invokevirtual 293, 3) := by decide +kernel
theorem dX9_heavy_16 : decode cX9_heavy 16 = .ok (.ifCond .ne 10, 3) := by decide +kernel
theorem dX9_heavy_19 : decode cX9_heavy 19 = .ok (.aload_n 0, 1) := by decide +kernel
theorem dX9_heavy_20 : decode cX9_heavy 20 = .ok (.ldc 56, 2) := by decide +kernel
theorem dX9_heavy_22 : decode cX9_heavy 22 = .ok (.invokevirtual 57, 3) := by decide +kernel
theorem dX9_heavy_25 : decode cX9_heavy 25 = .ok (.ireturn, 1) := by decide +kernel
theorem dX9_heavy_26 : decode cX9_heavy 26 = .ok (.aload_n 0, 1) := by decide +kernel
theorem dX9_heavy_27 : decode cX9_heavy 27 = .ok (.getfield 12, 3) := by decide +kernel
theorem dX9_heavy_30 : decode cX9_heavy 30 = .ok (.getfield 74, 3) := by decide +kernel
theorem dX9_heavy_33 : decode cX9_heavy 33 = .ok (.iload_n 1, 1) := by decide +kernel
theorem dX9_heavy_34 : decode cX9_heavy 34 = .ok (.aaload, 1) := by decide +kernel
theorem dX9_heavy_35 : decode cX9_heavy 35 = .ok (.invokevirtual 95, 3) := by decide +kernel
theorem dX9_heavy_38 : decode cX9_heavy 38 = .ok (.aload_n 0, 1) := by decide +kernel
theorem dX9_heavy_39 : decode cX9_heavy 39 = .ok (.getfield 12, 3) := by decide +kernel
theorem dX9_heavy_42 : decode cX9_heavy 42 = .ok (.iload_n 2, 1) := by decide +kernel
theorem dX9_heavy_43 : decode cX9_heavy 43 = .ok (.invokevirtual 102, 3) := by decide +kernel
theorem dX9_heavy_46 : decode cX9_heavy 46 = .ok (.isub, 1) := by decide +kernel
theorem dX9_heavy_47 : decode cX9_heavy 47 = .ok (.istore_n 3, 1) := by decide +kernel
theorem dX9_heavy_48 : decode cX9_heavy 48 = .ok (.iload_n 3, 1) := by decide +kernel
theorem dX9_heavy_49 : decode cX9_heavy 49 = .ok (.ifCond .ge 10, 3) := by decide +kernel
theorem dX9_heavy_52 : decode cX9_heavy 52 = .ok (.aload_n 0, 1) := by decide +kernel
theorem dX9_heavy_53 : decode cX9_heavy 53 = .ok (.ldc 203, 2) := by decide +kernel
theorem dX9_heavy_55 : decode cX9_heavy 55 = .ok (.invokevirtual 57, 3) := by decide +kernel
theorem dX9_heavy_58 : decode cX9_heavy 58 = .ok (.ireturn, 1) := by decide +kernel
theorem dX9_heavy_59 : decode cX9_heavy 59 = .ok (.iconst 0, 1) := by decide +kernel
theorem dX9_heavy_60 : decode cX9_heavy 60 = .ok (.istore 4, 2) := by decide +kernel
theorem dX9_heavy_62 : decode cX9_heavy 62 = .ok (.iconst 0, 1) := by decide +kernel
theorem dX9_heavy_63 : decode cX9_heavy 63 = .ok (.istore 5, 2) := by decide +kernel
theorem dX9_heavy_65 : decode cX9_heavy 65 = .ok (.iload 5, 2) := by decide +kernel
theorem dX9_heavy_67 : decode cX9_heavy 67 = .ok (.aload_n 0, 1) := by decide +kernel
theorem dX9_heavy_68 : decode cX9_heavy 68 = .ok (.getfield 12, 3) := by decide +kernel
theorem dX9_heavy_71 : decode cX9_heavy 71 = .ok (.getfield 132, 3) := by decide +kernel
theorem dX9_heavy_74 : decode cX9_heavy 74 = .ok (.if_icmp .ge 46, 3) := by decide +kernel
theorem dX9_heavy_77 : decode cX9_heavy 77 = .ok (.iload_n 2, 1) := by decide +kernel
theorem dX9_heavy_78 : decode cX9_heavy 78 = .ok (.iload 5, 2) := by decide +kernel
theorem dX9_heavy_80 : decode cX9_heavy 80 = .ok (.invokestatic 239, 3) := by decide +kernel
theorem dX9_heavy_83 : decode cX9_heavy 83 = .ok (.ifCond .eq 31, 3) := by decide +kernel
theorem dX9_heavy_86 : decode cX9_heavy 86 = .ok (.aload_n 0, 1) := by decide +kernel
theorem dX9_heavy_87 : decode cX9_heavy 87 = .ok (.getfield 12, 3) := by decide +kernel
theorem dX9_heavy_90 : decode cX9_heavy 90 = .ok (.getfield 141, 3) := by decide +kernel
theorem dX9_heavy_93 : decode cX9_heavy 93 = .ok (.iload 5, 2) := by decide +kernel
theorem dX9_heavy_95 : decode cX9_heavy 95 = .ok (.aaload, 1) := by decide +kernel
theorem dX9_heavy_96 : decode cX9_heavy 96 = .ok (.getfield 145, 3) := by decide +kernel
theorem dX9_heavy_99 : decode cX9_heavy 99 = .ok (.iconst 2, 1) := by decide +kernel
theorem dX9_heavy_100 : decode cX9_heavy 100 = .ok (.idiv, 1) := by decide +kernel
theorem dX9_heavy_101 : decode cX9_heavy 101 = .ok (.iload_n 3, 1) := by decide +kernel
theorem dX9_heavy_102 : decode cX9_heavy 102 = .ok (.if_icmp .le 12, 3) := by decide +kernel
theorem dX9_heavy_105 : decode cX9_heavy 105 = .ok (.iload 4, 2) := by decide +kernel
theorem dX9_heavy_107 : decode cX9_heavy 107 = .ok (.iconst 1, 1) := by decide +kernel
theorem dX9_heavy_108 : decode cX9_heavy 108 = .ok (.iload 5, 2) := by decide +kernel
theorem dX9_heavy_110 : decode cX9_heavy 110 = .ok (.ishl, 1) := by decide +kernel
theorem dX9_heavy_111 : decode cX9_heavy 111 = .ok (.ior, 1) := by decide +kernel
theorem dX9_heavy_112 : decode cX9_heavy 112 = .ok (.istore 4, 2) := by decide +kernel
theorem dX9_heavy_114 : decode cX9_heavy 114 = .ok (.iinc 5 1, 3) := by decide +kernel
theorem dX9_heavy_117 : decode cX9_heavy 117 = .ok (.goto (-52), 3) := by decide +kernel
theorem dX9_heavy_120 : decode cX9_heavy 120 = .ok (.iload 4, 2) := by decide +kernel
theorem dX9_heavy_122 : decode cX9_heavy 122 = .ok (.ireturn, 1) := by decide +kernel
theorem dX9_day_0 : decode cX9_day 0 = .ok (.aload_n 0, 1) := by decide +kernel
theorem dX9_day_1 : decode cX9_day 1 = .ok (.iload_n 1, 1) := by decide +kernel
theorem dX9_day_2 : decode cX9_day 2 = .ok (.invokevirtual 296, 3) := by decide +kernel
theorem dX9_day_5 : decode cX9_day 5 = .ok (.istore_n 2, 1) := by decide +kernel
theorem dX9_day_6 : decode cX9_day 6 = .ok (.iload_n 2, 1) := by decide +kernel
theorem dX9_day_7 : decode cX9_day 7 = .ok (.ifCond .eq 11, 3) := by decide +kernel
theorem dX9_day_10 : decode cX9_day 10 = .ok (.aload_n 0, 1) := by decide +kernel
theorem dX9_day_11 : decode cX9_day 11 = .ok (.iload_n 2, 1) := by decide +kernel
theorem dX9_day_12 : decode cX9_day 12 = .ok (.invokevirtual 57, 3) := by decide +kernel
theorem dX9_day_15 : decode cX9_day 15 = .ok (.goto 11, 3) := by decide +kernel
theorem dX9_day_18 : decode cX9_day 18 = .ok (.aload_n 0, 1) := by decide +kernel
theorem dX9_day_19 : decode cX9_day 19 = .ok (.getfield 12, 3) := by decide +kernel
theorem dX9_day_22 : decode cX9_day 22 = .ok (.iload_n 1, 1) := by decide +kernel
theorem dX9_day_23 : decode cX9_day 23 = .ok (.invokevirtual 299, 3) := by decide +kernel
theorem dX9_day_26 : decode cX9_day 26 = .ok (.ireturn, 1) := by decide +kernel
theorem dX9_ahead_0 : decode cX9_ahead 0 = .ok (.aload_n 0, 1) := by decide +kernel
theorem dX9_ahead_1 : decode cX9_ahead 1 = .ok (.iload_n 1, 1) := by decide +kernel
theorem dX9_ahead_2 : decode cX9_ahead 2 = .ok (.invokevirtual 296, 3) := by decide +kernel
theorem dX9_ahead_5 : decode cX9_ahead 5 = .ok (.istore_n 2, 1) := by decide +kernel
theorem dX9_ahead_6 : decode cX9_ahead 6 = .ok (.iload_n 2, 1) := by decide +kernel
theorem dX9_ahead_7 : decode cX9_ahead 7 = .ok (.ifCond .eq 9, 3) := by decide +kernel
theorem dX9_ahead_10 : decode cX9_ahead 10 = .ok (.aload_n 0, 1) := by decide +kernel
theorem dX9_ahead_11 : decode cX9_ahead 11 = .ok (.iload_n 2, 1) := by decide +kernel
theorem dX9_ahead_12 : decode cX9_ahead 12 = .ok (.invokevirtual 57, 3) := by decide +kernel
theorem dX9_ahead_15 : decode cX9_ahead 15 = .ok (.ireturn, 1) := by decide +kernel
theorem dX9_ahead_16 : decode cX9_ahead 16 = .ok (.aload_n 0, 1) := by decide +kernel
theorem dX9_ahead_17 : decode cX9_ahead 17 = .ok (.getfield 19, 3) := by decide +kernel
theorem dX9_ahead_20 : decode cX9_ahead 20 = .ok (.aload_n 0, 1) := by decide +kernel
theorem dX9_ahead_21 : decode cX9_ahead 21 = .ok (.getfield 12, 3) := by decide +kernel
theorem dX9_ahead_24 : decode cX9_ahead 24 = .ok (.invokevirtual 302, 3) := by decide +kernel
theorem dX9_ahead_27 : decode cX9_ahead 27 = .ok (.aload_n 0, 1) := by decide +kernel
theorem dX9_ahead_28 : decode cX9_ahead 28 = .ok (.getfield 19, 3) := by decide +kernel
theorem dX9_ahead_31 : decode cX9_ahead 31 = .ok (.iload_n 1, 1) := by decide +kernel
theorem dX9_ahead_32 : decode cX9_ahead 32 = .ok (.invokevirtual 299, 3) := by decide +kernel
theorem dX9_ahead_35 : decode cX9_ahead 35 = .ok (.ireturn, 1) := by decide +kernel
theorem dX9_seed_0 : decode cX9_seed 0 = .ok (.aload_n 0, 1) := by decide +kernel
theorem dX9_seed_1 : decode cX9_seed 1 = .ok (.getfield 12, 3) := by decide +kernel
theorem dX9_seed_4 : decode cX9_seed 4 = .ok (.getfield 306, 3) := by decide +kernel
theorem dX9_seed_7 : decode cX9_seed 7 = .ok (.istore_n 2, 1) := by decide +kernel
theorem dX9_seed_8 : decode cX9_seed 8 = .ok (.aload_n 0, 1) := by decide +kernel
theorem dX9_seed_9 : decode cX9_seed 9 = .ok (.getfield 12, 3) := by decide +kernel
theorem dX9_seed_12 : decode cX9_seed 12 = .ok (.iload_n 1, 1) := by decide +kernel
theorem dX9_seed_13 : decode cX9_seed 13 = .ok (.putfield 306, 3) := by decide +kernel
theorem dX9_seed_16 : decode cX9_seed 16 = .ok (.iload_n 2, 1) := by decide +kernel
theorem dX9_seed_17 : decode cX9_seed 17 = .ok (.ireturn, 1) := by decide +kernel
theorem dX9_feed_0 : decode cX9_feed 0 = .ok (.iload_n 2, 1) := by decide +kernel
theorem dX9_feed_1 : decode cX9_feed 1 = .ok (.iconst 1, 1) := by decide +kernel
theorem dX9_feed_2 : decode cX9_feed 2 = .ok (.iconst 4, 1) := by decide +kernel
theorem dX9_feed_3 : decode cX9_feed 3 = .ok (.invokestatic 52, 3) := by decide +kernel
theorem dX9_feed_6 : decode cX9_feed 6 = .ok (.ifCond .ne 10, 3) := by decide +kernel
theorem dX9_feed_9 : decode cX9_feed 9 = .ok (.aload_n 0, 1) := by decide +kernel
theorem dX9_feed_10 : decode cX9_feed 10 = .ok (.ldc 56, 2) := by decide +kernel
theorem dX9_feed_12 : decode cX9_feed 12 = .ok (.invokevirtual 57, 3) := by decide +kernel
theorem dX9_feed_15 : decode cX9_feed 15 = .ok (.ireturn, 1) := by decide +kernel
theorem dX9_feed_16 : decode cX9_feed 16 = .ok (.aload_n 0, 1) := by decide +kernel
theorem dX9_feed_17 : decode cX9_feed 17 = .ok (.getfield 36, 3) := by decide +kernel
theorem dX9_feed_20 : decode cX9_feed 20 = .ok (.getfield 309, 3) := by decide +kernel
theorem dX9_feed_23 : decode cX9_feed 23 = .ok (.iload_n 2, 1) := by decide +kernel
theorem dX9_feed_24 : decode cX9_feed 24 = .ok (.iadd, 1) := by decide +kernel
theorem dX9_feed_25 : decode cX9_feed 25 = .ok (.bipush 120, 2) := by decide +kernel
theorem dX9_feed_27 : decode cX9_feed 27 = .ok (.if_icmp .le 10, 3) := by decide +kernel
theorem dX9_feed_30 : decode cX9_feed 30 = .ok (.aload_n 0, 1) := by decide +kernel
theorem dX9_feed_31 : decode cX9_feed 31 = .ok (.ldc 65, 2) := by decide +kernel
theorem dX9_feed_33 : decode cX9_feed 33 = .ok (.invokevirtual 57, 3) := by decide +kernel
theorem dX9_feed_36 : decode cX9_feed 36 = .ok (.ireturn, 1) := by decide +kernel
theorem dX9_feed_37 : decode cX9_feed 37 = .ok (.iload_n 2, 1) := by decide +kernel
theorem dX9_feed_38 : decode cX9_feed 38 = .ok (.iconst 1, 1) := by decide +kernel
theorem dX9_feed_39 : decode cX9_feed 39 = .ok (.isub, 1) := by decide +kernel
theorem dX9_feed_40 : decode cX9_feed 40 = .ok (.istore_n 3, 1) := by decide +kernel
theorem dX9_feed_41 : decode cX9_feed 41 = .ok (.iload_n 3, 1) := by decide +kernel
theorem dX9_feed_42 : decode cX9_feed 42 = .ok (.ifCond .lt 26, 3) := by decide +kernel
theorem dX9_feed_45 : decode cX9_feed 45 = .ok (.aload_n 0, 1) := by decide +kernel
theorem dX9_feed_46 : decode cX9_feed 46 = .ok (.getfield 36, 3) := by decide +kernel
theorem dX9_feed_49 : decode cX9_feed 49 = .ok (.iload_n 1, 1) := by decide +kernel
theorem dX9_feed_50 : decode cX9_feed 50 = .ok (.bipush 8, 2) := by decide +kernel
theorem dX9_feed_52 : decode cX9_feed 52 = .ok (.iload_n 3, 1) := by decide +kernel
theorem dX9_feed_53 : decode cX9_feed 53 = .ok (.imul, 1) := by decide +kernel
theorem dX9_feed_54 : decode cX9_feed 54 = .ok (.iushr, 1) := by decide +kernel
theorem dX9_feed_55 : decode cX9_feed 55 = .ok (.sipush 255, 3) := by decide +kernel
theorem dX9_feed_58 : decode cX9_feed 58 = .ok (.iand, 1) := by decide +kernel
theorem dX9_feed_59 : decode cX9_feed 59 = .ok (.invokevirtual 312, 3) := by decide +kernel
theorem dX9_feed_62 : decode cX9_feed 62 = .ok (.iinc 3 (-1), 3) := by decide +kernel
theorem dX9_feed_65 : decode cX9_feed 65 = .ok (.goto (-24), 3) := by decide +kernel
theorem dX9_feed_68 : decode cX9_feed 68 = .ok (.aload_n 0, 1) := by decide +kernel
theorem dX9_feed_69 : decode cX9_feed 69 = .ok (.getfield 36, 3) := by decide +kernel
theorem dX9_feed_72 : decode cX9_feed 72 = .ok (.getfield 309, 3) := by decide +kernel
theorem dX9_feed_75 : decode cX9_feed 75 = .ok (.ireturn, 1) := by decide +kernel
theorem dX9_wipe_0 : decode cX9_wipe 0 = .ok (.aload_n 0, 1) := by decide +kernel
theorem dX9_wipe_1 : decode cX9_wipe 1 = .ok (.getfield 36, 3) := by decide +kernel
theorem dX9_wipe_4 : decode cX9_wipe 4 = .ok (.getfield 309, 3) := by decide +kernel
theorem dX9_wipe_7 : decode cX9_wipe 7 = .ok (.istore_n 1, 1) := by decide +kernel
theorem dX9_wipe_8 : decode cX9_wipe 8 = .ok (.aload_n 0, 1) := by decide +kernel
theorem dX9_wipe_9 : decode cX9_wipe 9 = .ok (.getfield 36, 3) := by decide +kernel
theorem dX9_wipe_12 : decode cX9_wipe 12 = .ok (.iconst 0, 1) := by decide +kernel
theorem dX9_wipe_13 : decode cX9_wipe 13 = .ok (.putfield 309, 3) := by decide +kernel
theorem dX9_wipe_16 : decode cX9_wipe 16 = .ok (.iload_n 1, 1) := by decide +kernel
theorem dX9_wipe_17 : decode cX9_wipe 17 = .ok (.ireturn, 1) := by decide +kernel
theorem dX9_text_0 : decode cX9_text 0 = .ok (.aload_n 0, 1) := by decide +kernel
theorem dX9_text_1 : decode cX9_text 1 = .ok (.getfield 19, 3) := by decide +kernel
theorem dX9_text_4 : decode cX9_text 4 = .ok (.aload_n 0, 1) := by decide +kernel
theorem dX9_text_5 : decode cX9_text 5 = .ok (.getfield 12, 3) := by decide +kernel
theorem dX9_text_8 : decode cX9_text 8 = .ok (.invokevirtual 302, 3) := by decide +kernel
theorem dX9_text_11 : decode cX9_text 11 = .ok (.aload_n 0, 1) := by decide +kernel
theorem dX9_text_12 : decode cX9_text 12 = .ok (.getfield 36, 3) := by decide +kernel
theorem dX9_text_15 : decode cX9_text 15 = .ok (.aload_n 0, 1) := by decide +kernel
theorem dX9_text_16 : decode cX9_text 16 = .ok (.getfield 19, 3) := by decide +kernel
theorem dX9_text_19 : decode cX9_text 19 = .ok (.invokevirtual 316, 3) := by decide +kernel
theorem dX9_text_22 : decode cX9_text 22 = .ok (.istore_n 1, 1) := by decide +kernel
theorem dX9_text_23 : decode cX9_text 23 = .ok (.aload_n 0, 1) := by decide +kernel
theorem dX9_text_24 : decode cX9_text 24 = .ok (.getfield 36, 3) := by decide +kernel
theorem dX9_text_27 : decode cX9_text 27 = .ok (.iconst 0, 1) := by decide +kernel
theorem dX9_text_28 : decode cX9_text 28 = .ok (.putfield 309, 3) := by decide +kernel
theorem dX9_text_31 : decode cX9_text 31 = .ok (.iload_n 1, 1) := by decide +kernel
theorem dX9_text_32 : decode cX9_text 32 = .ok (.ifCond .le 14, 3) := by decide +kernel
theorem dX9_text_35 : decode cX9_text 35 = .ok (.aload_n 0, 1) := by decide +kernel
theorem dX9_text_36 : decode cX9_text 36 = .ok (.getfield 12, 3) := by decide +kernel
theorem dX9_text_39 : decode cX9_text 39 = .ok (.aload_n 0, 1) := by decide +kernel
theorem dX9_text_40 : decode cX9_text 40 = .ok (.getfield 19, 3) := by decide +kernel
theorem dX9_text_43 : decode cX9_text 43 = .ok (.invokevirtual 302, 3) := by decide +kernel
theorem dX9_text_46 : decode cX9_text 46 = .ok (.iload_n 1, 1) := by decide +kernel
theorem dX9_text_47 : decode cX9_text 47 = .ok (.ireturn, 1) := by decide +kernel
theorem dX9_hold_0 : decode cX9_hold 0 = .ok (.iload_n 1, 1) := by decide +kernel
theorem dX9_hold_1 : decode cX9_hold 1 = .ok (.iconst 0, 1) := by decide +kernel
theorem dX9_hold_2 : decode cX9_hold 2 = .ok (.bipush 9, 2) := by decide +kernel
theorem dX9_hold_4 : decode cX9_hold 4 = .ok (.invokestatic 52, 3) := by decide +kernel
theorem dX9_hold_7 : decode cX9_hold 7 = .ok (.ifCond .eq 19, 3) := by decide +kernel
theorem dX9_hold_10 : decode cX9_hold 10 = .ok (.iload_n 2, 1) := by decide +kernel
theorem dX9_hold_11 : decode cX9_hold 11 = .ok (.iconst (-1), 1) := by decide +kernel
theorem dX9_hold_12 : decode cX9_hold 12 = .ok (.if_icmp .eq 21, 3) := by decide +kernel
theorem dX9_hold_15 : decode cX9_hold 15 = .ok (.aload_n 0, 1) := by decide +kernel
theorem dX9_hold_16 : decode cX9_hold 16 = .ok (.getfield 12, 3) := by decide +kernel
theorem dX9_hold_19 : decode cX9_hold 19 = .ok (.iload_n 2, 1) := by decide +kernel
theorem dX9_hold_20 : decode cX9_hold 20 = .ok (.invokevirtual 70, 3) := by decide +kernel
theorem dX9_hold_23 : decode cX9_hold 23 = .ok (.ifCond .ne 10, 3) := by decide +kernel
theorem dX9_hold_26 : decode cX9_hold 26 = .ok (.aload_n 0, 1) := by decide +kernel
theorem dX9_hold_27 : decode cX9_hold 27 = .ok (.ldc 56, 2) := by decide +kernel
theorem dX9_hold_29 : decode cX9_hold 29 = .ok (.invokevirtual 57, 3) := by decide +kernel
theorem dX9_hold_32 : decode cX9_hold 32 = .ok (.ireturn, 1) := by decide +kernel
theorem dX9_hold_33 : decode cX9_hold 33 = .ok (.aload_n 0, 1) := by decide +kernel
theorem dX9_hold_34 : decode cX9_hold 34 = .ok (.getfield 12, 3) := by decide +kernel
theorem dX9_hold_37 : decode cX9_hold 37 = .ok (.getfield 320, 3) := by decide +kernel
theorem dX9_hold_40 : decode cX9_hold 40 = .ok (.iload_n 1, 1) := by decide +kernel
theorem dX9_hold_41 : decode cX9_hold 41 = .ok (.iload_n 2, 1) := by decide +kernel
theorem dX9_hold_42 : decode cX9_hold 42 = .ok (.iastore, 1) := by decide +kernel
theorem dX9_hold_43 : decode cX9_hold 43 = .ok (.iconst 1, 1) := by decide +kernel
theorem dX9_hold_44 : decode cX9_hold 44 = .ok (.ireturn, 1) := by decide +kernel
theorem dX9_as_0 : decode cX9_as 0 = .ok (.iload_n 1, 1) := by decide +kernel
theorem dX9_as_1 : decode cX9_as 1 = .ok (.iconst 0, 1) := by decide +kernel
theorem dX9_as_2 : decode cX9_as 2 = .ok (.bipush 9, 2) := by decide +kernel
theorem dX9_as_4 : decode cX9_as 4 = .ok (.invokestatic 52, 3) := by decide +kernel
theorem dX9_as_7 : decode cX9_as 7 = .ok (.ifCond .eq 13, 3) := by decide +kernel
theorem dX9_as_10 : decode cX9_as 10 = .ok (.iload_n 2, 1) := by decide +kernel
theorem dX9_as_11 : decode cX9_as 11 = .ok (.iconst 0, 1) := by decide +kernel
theorem dX9_as_12 : decode cX9_as 12 = .ok (.bipush 6, 2) := by decide +kernel
theorem dX9_as_14 : decode cX9_as 14 = .ok (.invokestatic 52, 3) := by decide +kernel
theorem dX9_as_17 : decode cX9_as 17 = .ok (.ifCond .ne 10, 3) := by decide +kernel
theorem dX9_as_20 : decode cX9_as 20 = .ok (.aload_n 0, 1) := by decide +kernel
theorem dX9_as_21 : decode cX9_as 21 = .ok (.ldc 56, 2) := by decide +kernel
theorem dX9_as_23 : decode cX9_as 23 = .ok (.invokevirtual 57, 3) := by decide +kernel
theorem dX9_as_26 : decode cX9_as 26 = .ok (.ireturn, 1) := by decide +kernel
theorem dX9_as_27 : decode cX9_as 27 = .ok (.aload_n 0, 1) := by decide +kernel
theorem dX9_as_28 : decode cX9_as 28 = .ok (.getfield 12, 3) := by decide +kernel
theorem dX9_as_31 : decode cX9_as 31 = .ok (.getfield 320, 3) := by decide +kernel
theorem dX9_as_34 : decode cX9_as 34 = .ok (.iload_n 1, 1) := by decide +kernel
theorem dX9_as_35 : decode cX9_as 35 = .ok (.iaload, 1) := by decide +kernel
theorem dX9_as_36 : decode cX9_as 36 = .ok (.istore_n 3, 1) := by decide +kernel
theorem dX9_as_37 : decode cX9_as 37 = .ok (.aload_n 0, 1) := by decide +kernel
theorem dX9_as_38 : decode cX9_as 38 = .ok (.getfield 12, 3) := by decide +kernel
theorem dX9_as_41 : decode cX9_as 41 = .ok (.iload_n 3, 1) := by decide +kernel
theorem dX9_as_42 : decode cX9_as 42 = .ok (.invokevirtual 70, 3) := by decide +kernel
theorem dX9_as_45 : decode cX9_as 45 = .ok (.ifCond .ne 11, 3) := by decide +kernel
theorem dX9_as_48 : decode cX9_as 48 = .ok (.aload_n 0, 1) := by decide +kernel
theorem dX9_as_49 : decode cX9_as 49 = .ok (.ldc_w 323, 3) := by decide +kernel
theorem dX9_as_52 : decode cX9_as 52 = .ok (.invokevirtual 57, 3) := by decide +kernel
theorem dX9_as_55 : decode cX9_as 55 = .ok (.ireturn, 1) := by decide +kernel
theorem dX9_as_56 : decode cX9_as 56 = .ok (.aload_n 0, 1) := by decide +kernel
theorem dX9_as_57 : decode cX9_as 57 = .ok (.getfield 12, 3) := by decide +kernel
theorem dX9_as_60 : decode cX9_as 60 = .ok (.getfield 74, 3) := by decide +kernel
theorem dX9_as_63 : decode cX9_as 63 = .ok (.iload_n 3, 1) := by decide +kernel
theorem dX9_as_64 : decode cX9_as 64 = .ok (.aaload, 1) := by decide +kernel
theorem dX9_as_65 : decode cX9_as 65 = .ok (.getfield 78, 3) := by decide +kernel
theorem dX9_as_68 : decode cX9_as 68 = .ok (.iload_n 2, 1) := by decide +kernel
theorem dX9_as_69 : decode cX9_as 69 = .ok (.invokestatic 324, 3) := by decide +kernel
theorem dX9_as_72 : decode cX9_as 72 = .ok (.ifCond .eq 7, 3) := by decide +kernel
theorem dX9_as_75 : decode cX9_as 75 = .ok (.iload_n 3, 1) := by decide +kernel
theorem dX9_as_76 : decode cX9_as 76 = .ok (.goto 10, 3) := by decide +kernel
theorem dX9_as_79 : decode cX9_as 79 = .ok (.aload_n 0, 1) := by decide +kernel
theorem dX9_as_80 : decode cX9_as 80 = .ok (.ldc_w 327, 3) := by decide +kernel
theorem dX9_as_83 : decode cX9_as 83 = .ok (.invokevirtual 57, 3) := by decide +kernel
theorem dX9_as_86 : decode cX9_as 86 = .ok (.ireturn, 1) := by decide +kernel
theorem dX9_sheet_0 : decode cX9_sheet 0 = .ok (.iload_n 1, 1) := by decide +kernel
theorem dX9_sheet_1 : decode cX9_sheet 1 = .ok (.invokestatic 328, 3) := by decide +kernel
theorem dX9_sheet_4 : decode cX9_sheet 4 = .ok (.ifCond .eq 25, 3) := by decide +kernel
theorem dX9_sheet_7 : decode cX9_sheet 7 = .ok (.iload_n 2, 1) := by decide +kernel
theorem dX9_sheet_8 : decode cX9_sheet 8 = .ok (.ifCond .eq 28, 3) := by decide +kernel
theorem dX9_sheet_11 : decode cX9_sheet 11 = .ok (.iload_n 2, 1) := by decide +kernel
theorem dX9_sheet_12 : decode cX9_sheet 12 = .ok (.bipush 8, 2) := by decide +kernel
theorem dX9_sheet_14 : decode cX9_sheet 14 = .ok (.if_icmp .eq 22, 3) := by decide +kernel
theorem dX9_sheet_17 : decode cX9_sheet 17 = .ok (.iload_n 2, 1) := by decide +kernel
theorem dX9_sheet_18 : decode cX9_sheet 18 = .ok (.bipush 16, 2) := by decide +kernel
theorem dX9_sheet_20 : decode cX9_sheet 20 = .ok (.if_icmp .eq 16, 3) := by decide +kernel
theorem dX9_sheet_23 : decode cX9_sheet 23 = .ok (.iload_n 2, 1) := by decide +kernel
theorem dX9_sheet_24 : decode cX9_sheet 24 = .ok (.bipush 32, 2) := by decide +kernel
theorem dX9_sheet_26 : decode cX9_sheet 26 = .ok (.if_icmp .eq 10, 3) := by decide +kernel
theorem dX9_sheet_29 : decode cX9_sheet 29 = .ok (.aload_n 0, 1) := by decide +kernel
theorem dX9_sheet_30 : decode cX9_sheet 30 = .ok (.ldc 56, 2) := by decide +kernel
theorem dX9_sheet_32 : decode cX9_sheet 32 = .ok (.invokevirtual 57, 3) := by decide +kernel
theorem dX9_sheet_35 : decode cX9_sheet 35 = .ok (.ireturn, 1) := by decide +kernel
theorem dX9_sheet_36 : decode cX9_sheet 36 = .ok (.iload_n 3, 1) := by decide +kernel
theorem dX9_sheet_37 : decode cX9_sheet 37 = .ok (.ifCond .ge 11, 3) := by decide +kernel
theorem dX9_sheet_40 : decode cX9_sheet 40 = .ok (.aload_n 0, 1) := by decide +kernel
theorem dX9_sheet_41 : decode cX9_sheet 41 = .ok (.ldc_w 331, 3) := by decide +kernel
theorem dX9_sheet_44 : decode cX9_sheet 44 = .ok (.invokevirtual 57, 3) := by decide +kernel
theorem dX9_sheet_47 : decode cX9_sheet 47 = .ok (.ireturn, 1) := by decide +kernel
theorem dX9_sheet_48 : decode cX9_sheet 48 = .ok (.iload_n 3, 1) := by decide +kernel
theorem dX9_sheet_49 : decode cX9_sheet 49 = .ok (.bipush 40, 2) := by decide +kernel
theorem dX9_sheet_51 : decode cX9_sheet 51 = .ok (.if_icmp .le 10, 3) := by decide +kernel
theorem dX9_sheet_54 : decode cX9_sheet 54 = .ok (.aload_n 0, 1) := by decide +kernel
theorem dX9_sheet_55 : decode cX9_sheet 55 = .ok (.ldc 56, 2) := by decide +kernel
theorem dX9_sheet_57 : decode cX9_sheet 57 = .ok (.invokevirtual 57, 3) := by decide +kernel
theorem dX9_sheet_60 : decode cX9_sheet 60 = .ok (.ireturn, 1) := by decide +kernel
theorem dX9_sheet_61 : decode cX9_sheet 61 = .ok (.aload_n 0, 1) := by decide +kernel
theorem dX9_sheet_62 : decode cX9_sheet 62 = .ok (.getfield 42, 3) := by decide +kernel
theorem dX9_sheet_65 : decode cX9_sheet 65 = .ok (.iload_n 1, 1) := by decide +kernel
theorem dX9_sheet_66 : decode cX9_sheet 66 = .ok (.aaload, 1) := by decide +kernel
theorem dX9_sheet_67 : decode cX9_sheet 67 = .ok (.iload_n 2, 1) := by decide +kernel
theorem dX9_sheet_68 : decode cX9_sheet 68 = .ok (.iload_n 3, 1) := by decide +kernel
theorem dX9_sheet_69 : decode cX9_sheet 69 = .ok (.invokevirtual 332, 3) := by decide +kernel
theorem dX9_sheet_72 : decode cX9_sheet 72 = .ok (.aload_n 0, 1) := by decide +kernel
theorem dX9_sheet_73 : decode cX9_sheet 73 = .ok (.getfield 42, 3) := by decide +kernel
theorem dX9_sheet_76 : decode cX9_sheet 76 = .ok (.iload_n 1, 1) := by decide +kernel
theorem dX9_sheet_77 : decode cX9_sheet 77 = .ok (.aaload, 1) := by decide +kernel
theorem dX9_sheet_78 : decode cX9_sheet 78 = .ok (.getfield 335, 3) := by decide +kernel
theorem dX9_sheet_81 : decode cX9_sheet 81 = .ok (.ireturn, 1) := by decide +kernel
theorem dX9_write_0 : decode cX9_write 0 = .ok (.iload_n 1, 1) := by decide +kernel
theorem dX9_write_1 : decode cX9_write 1 = .ok (.invokestatic 328, 3) := by decide +kernel
theorem dX9_write_4 : decode cX9_write 4 = .ok (.ifCond .ne 10, 3) := by decide +kernel
theorem dX9_write_7 : decode cX9_write 7 = .ok (.aload_n 0, 1) := by decide +kernel
theorem dX9_write_8 : decode cX9_write 8 = .ok (.ldc 56, 2) := by decide +kernel
theorem dX9_write_10 : decode cX9_write 10 = .ok (.invokevirtual 57, 3) := by decide +kernel
theorem dX9_write_13 : decode cX9_write 13 = .ok (.ireturn, 1) := by decide +kernel
theorem dX9_write_14 : decode cX9_write 14 = .ok (.aload_n 0, 1) := by decide +kernel
theorem dX9_write_15 : decode cX9_write 15 = .ok (.getfield 42, 3) := by decide +kernel
theorem dX9_write_18 : decode cX9_write 18 = .ok (.iload_n 1, 1) := by decide +kernel
theorem dX9_write_19 : decode cX9_write 19 = .ok (.aaload, 1) := by decide +kernel
theorem dX9_write_20 : decode cX9_write 20 = .ok (.invokevirtual 336, 3) := by decide +kernel
theorem dX9_write_23 : decode cX9_write 23 = .ok (.ifCond .eq 11, 3) := by decide +kernel
theorem dX9_write_26 : decode cX9_write 26 = .ok (.aload_n 0, 1) := by decide +kernel
theorem dX9_write_27 : decode cX9_write 27 = .ok (.ldc_w 323, 3) := by decide +kernel
theorem dX9_write_30 : decode cX9_write 30 = .ok (.invokevirtual 57, 3) := by decide +kernel
theorem dX9_write_33 : decode cX9_write 33 = .ok (.ireturn, 1) := by decide +kernel
theorem dX9_write_34 : decode cX9_write 34 = .ok (.iload_n 2, 1) := by decide +kernel
theorem dX9_write_35 : decode cX9_write 35 = .ok (.iconst 0, 1) := by decide +kernel
theorem dX9_write_36 : decode cX9_write 36 = .ok (.aload_n 0, 1) := by decide +kernel
theorem dX9_write_37 : decode cX9_write 37 = .ok (.getfield 42, 3) := by decide +kernel
theorem dX9_write_40 : decode cX9_write 40 = .ok (.iload_n 1, 1) := by decide +kernel
theorem dX9_write_41 : decode cX9_write 41 = .ok (.aaload, 1) := by decide +kernel
theorem dX9_write_42 : decode cX9_write 42 = .ok (.getfield 335, 3) := by decide +kernel
theorem dX9_write_45 : decode cX9_write 45 = .ok (.iconst 1, 1) := by decide +kernel
theorem dX9_write_46 : decode cX9_write 46 = .ok (.isub, 1) := by decide +kernel
theorem dX9_write_47 : decode cX9_write 47 = .ok (.invokestatic 52, 3) := by decide +kernel
theorem dX9_write_50 : decode cX9_write 50 = .ok (.ifCond .ne 10, 3) := by decide +kernel
theorem dX9_write_53 : decode cX9_write 53 = .ok (.aload_n 0, 1) := by decide +kernel
theorem dX9_write_54 : decode cX9_write 54 = .ok (.ldc 56, 2) := by decide +kernel
theorem dX9_write_56 : decode cX9_write 56 = .ok (.invokevirtual 57, 3) := by decide +kernel
theorem dX9_write_59 : decode cX9_write 59 = .ok (.ireturn, 1) := by decide +kernel
theorem dX9_write_60 : decode cX9_write 60 = .ok (.aload_n 0, 1) := by decide +kernel
theorem dX9_write_61 : decode cX9_write 61 = .ok (.getfield 42, 3) := by decide +kernel
theorem dX9_write_64 : decode cX9_write 64 = .ok (.iload_n 1, 1) := by decide +kernel
theorem dX9_write_65 : decode cX9_write 65 = .ok (.aaload, 1) := by decide +kernel
theorem dX9_write_66 : decode cX9_write 66 = .ok (.iload_n 2, 1) := by decide +kernel
theorem dX9_write_67 : decode cX9_write 67 = .ok (.iload_n 3, 1) := by decide +kernel
theorem dX9_write_68 : decode cX9_write 68 = .ok (.invokevirtual 340, 3) := by decide +kernel
theorem dX9_write_71 : decode cX9_write 71 = .ok (.iconst 1, 1) := by decide +kernel
theorem dX9_write_72 : decode cX9_write 72 = .ok (.ireturn, 1) := by decide +kernel
theorem dX9_copy_0 : decode cX9_copy 0 = .ok (.iload_n 1, 1) := by decide +kernel
theorem dX9_copy_1 : decode cX9_copy 1 = .ok (.invokestatic 328, 3) := by decide +kernel
theorem dX9_copy_4 : decode cX9_copy 4 = .ok (.ifCond .eq 10, 3) := by decide +kernel
theorem dX9_copy_7 : decode cX9_copy 7 = .ok (.iload_n 3, 1) := by decide +kernel
theorem dX9_copy_8 : decode cX9_copy 8 = .ok (.invokestatic 328, 3) := by decide +kernel
theorem dX9_copy_11 : decode cX9_copy 11 = .ok (.ifCond .ne 10, 3) := by decide +kernel
theorem dX9_copy_14 : decode cX9_copy 14 = .ok (.aload_n 0, 1) := by decide +kernel
theorem dX9_copy_15 : decode cX9_copy 15 = .ok (.ldc 56, 2) := by decide +kernel
theorem dX9_copy_17 : decode cX9_copy 17 = .ok (.invokevirtual 57, 3) := by decide +kernel
theorem dX9_copy_20 : decode cX9_copy 20 = .ok (.ireturn, 1) := by decide +kernel
theorem dX9_copy_21 : decode cX9_copy 21 = .ok (.aload_n 0, 1) := by decide +kernel
theorem dX9_copy_22 : decode cX9_copy 22 = .ok (.getfield 42, 3) := by decide +kernel
theorem dX9_copy_25 : decode cX9_copy 25 = .ok (.iload_n 1, 1) := by decide +kernel
theorem dX9_copy_26 : decode cX9_copy 26 = .ok (.aaload, 1) := by decide +kernel
theorem dX9_copy_27 : decode cX9_copy 27 = .ok (.invokevirtual 336, 3) := by decide +kernel
theorem dX9_copy_30 : decode cX9_copy 30 = .ok (.ifCond .ne 15, 3) := by decide +kernel
theorem dX9_copy_33 : decode cX9_copy 33 = .ok (.aload_n 0, 1) := by decide +kernel
theorem dX9_copy_34 : decode cX9_copy 34 = .ok (.getfield 42, 3) := by decide +kernel
theorem dX9_copy_37 : decode cX9_copy 37 = .ok (.iload_n 3, 1) := by decide +kernel
theorem dX9_copy_38 : decode cX9_copy 38 = .ok (.aaload, 1) := by decide +kernel
theorem dX9_copy_39 : decode cX9_copy 39 = .ok (.invokevirtual 336, 3) := by decide +kernel
theorem dX9_copy_42 : decode cX9_copy 42 = .ok (.ifCond .eq 11, 3) := by decide +kernel
theorem dX9_copy_45 : decode cX9_copy 45 = .ok (.aload_n 0, 1) := by decide +kernel
theorem dX9_copy_46 : decode cX9_copy 46 = .ok (.ldc_w 323, 3) := by decide +kernel
theorem dX9_copy_49 : decode cX9_copy 49 = .ok (.invokevirtual 57, 3) := by decide +kernel
theorem dX9_copy_52 : decode cX9_copy 52 = .ok (.ireturn, 1) := by decide +kernel
theorem dX9_copy_53 : decode cX9_copy 53 = .ok (.aload_n 0, 1) := by decide +kernel
theorem dX9_copy_54 : decode cX9_copy 54 = .ok (.getfield 42, 3) := by decide +kernel
theorem dX9_copy_57 : decode cX9_copy 57 = .ok (.iload_n 1, 1) := by decide +kernel
theorem dX9_copy_58 : decode cX9_copy 58 = .ok (.aaload, 1) := by decide +kernel
theorem dX9_copy_59 : decode cX9_copy 59 = .ok (.getfield 343, 3) := by decide +kernel
theorem dX9_copy_62 : decode cX9_copy 62 = .ok (.aload_n 0, 1) := by decide +kernel
theorem dX9_copy_63 : decode cX9_copy 63 = .ok (.getfield 42, 3) := by decide +kernel
theorem dX9_copy_66 : decode cX9_copy 66 = .ok (.iload_n 3, 1) := by decide +kernel
theorem dX9_copy_67 : decode cX9_copy 67 = .ok (.aaload, 1) := by decide +kernel
theorem dX9_copy_68 : decode cX9_copy 68 = .ok (.getfield 343, 3) := by decide +kernel
theorem dX9_copy_71 : decode cX9_copy 71 = .ok (.if_icmp .eq 11, 3) := by decide +kernel
theorem dX9_copy_74 : decode cX9_copy 74 = .ok (.aload_n 0, 1) := by decide +kernel
theorem dX9_copy_75 : decode cX9_copy 75 = .ok (.ldc_w 327, 3) := by decide +kernel
theorem dX9_copy_78 : decode cX9_copy 78 = .ok (.invokevirtual 57, 3) := by decide +kernel
theorem dX9_copy_81 : decode cX9_copy 81 = .ok (.ireturn, 1) := by decide +kernel
theorem dX9_copy_82 : decode cX9_copy 82 = .ok (.aload_n 0, 1) := by decide +kernel
theorem dX9_copy_83 : decode cX9_copy 83 = .ok (.getfield 42, 3) := by decide +kernel
theorem dX9_copy_86 : decode cX9_copy 86 = .ok (.iload_n 1, 1) := by decide +kernel
theorem dX9_copy_87 : decode cX9_copy 87 = .ok (.aaload, 1) := by decide +kernel
theorem dX9_copy_88 : decode cX9_copy 88 = .ok (.iload_n 2, 1) := by decide +kernel
theorem dX9_copy_89 : decode cX9_copy 89 = .ok (.iload 5, 2) := by decide +kernel
theorem dX9_copy_91 : decode cX9_copy 91 = .ok (.invokevirtual 346, 3) := by decide +kernel
theorem dX9_copy_94 : decode cX9_copy 94 = .ok (.ifCond .eq 19, 3) := by decide +kernel
theorem dX9_copy_97 : decode cX9_copy 97 = .ok (.aload_n 0, 1) := by decide +kernel
theorem dX9_copy_98 : decode cX9_copy 98 = .ok (.getfield 42, 3) := by decide +kernel
theorem dX9_copy_101 : decode cX9_copy 101 = .ok (.iload_n 3, 1) := by decide +kernel
theorem dX9_copy_102 : decode cX9_copy 102 = .ok (.aaload, 1) := by decide +kernel
theorem dX9_copy_103 : decode cX9_copy 103 = .ok (.iload 4, 2) := by decide +kernel
theorem dX9_copy_105 : decode cX9_copy 105 = .ok (.iload 5, 2) := by decide +kernel
theorem dX9_copy_107 : decode cX9_copy 107 = .ok (.invokevirtual 346, 3) := by decide +kernel
theorem dX9_copy_110 : decode cX9_copy 110 = .ok (.ifCond .ne 10, 3) := by decide +kernel
theorem dX9_copy_113 : decode cX9_copy 113 = .ok (.aload_n 0, 1) := by decide +kernel
theorem dX9_copy_114 : decode cX9_copy 114 = .ok (.ldc 56, 2) := by decide +kernel
theorem dX9_copy_116 : decode cX9_copy 116 = .ok (.invokevirtual 57, 3) := by decide +kernel
theorem dX9_copy_119 : decode cX9_copy 119 = .ok (.ireturn, 1) := by decide +kernel
theorem dX9_copy_120 : decode cX9_copy 120 = .ok (.aload_n 0, 1) := by decide +kernel
theorem dX9_copy_121 : decode cX9_copy 121 = .ok (.getfield 42, 3) := by decide +kernel
theorem dX9_copy_124 : decode cX9_copy 124 = .ok (.iload_n 1, 1) := by decide +kernel
theorem dX9_copy_125 : decode cX9_copy 125 = .ok (.aaload, 1) := by decide +kernel
theorem dX9_copy_126 : decode cX9_copy 126 = .ok (.getfield 349, 3) := by decide +kernel
theorem dX9_copy_129 : decode cX9_copy 129 = .ok (.iload_n 2, 1) := by decide +kernel
theorem dX9_copy_130 : decode cX9_copy 130 = .ok (.aload_n 0, 1) := by decide +kernel
theorem dX9_copy_131 : decode cX9_copy 131 = .ok (.getfield 42, 3) := by decide +kernel
theorem dX9_copy_134 : decode cX9_copy 134 = .ok (.iload_n 3, 1) := by decide +kernel
theorem dX9_copy_135 : decode cX9_copy 135 = .ok (.aaload, 1) := by decide +kernel
theorem dX9_copy_136 : decode cX9_copy 136 = .ok (.getfield 349, 3) := by decide +kernel
theorem dX9_copy_139 : decode cX9_copy 139 = .ok (.iload 4, 2) := by decide +kernel
theorem dX9_copy_141 : decode cX9_copy 141 = .ok (.iload 5, 2) := by decide +kernel
theorem dX9_copy_143 : decode cX9_copy 143 = .ok (.invokestatic 352, 3) := by decide +kernel
theorem dX9_copy_146 : decode cX9_copy 146 = .ok (.iload 5, 2) := by decide +kernel
theorem dX9_copy_148 : decode cX9_copy 148 = .ok (.ireturn, 1) := by decide +kernel
theorem dX9_load_0 : decode cX9_load 0 = .ok (.iload_n 1, 1) := by decide +kernel
theorem dX9_load_1 : decode cX9_load 1 = .ok (.invokestatic 328, 3) := by decide +kernel
theorem dX9_load_4 : decode cX9_load 4 = .ok (.ifCond .ne 10, 3) := by decide +kernel
theorem dX9_load_7 : decode cX9_load 7 = .ok (.aload_n 0, 1) := by decide +kernel
theorem dX9_load_8 : decode cX9_load 8 = .ok (.ldc 56, 2) := by decide +kernel
theorem dX9_load_10 : decode cX9_load 10 = .ok (.invokevirtual 57, 3) := by decide +kernel
theorem dX9_load_13 : decode cX9_load 13 = .ok (.ireturn, 1) := by decide +kernel
theorem dX9_load_14 : decode cX9_load 14 = .ok (.aload_n 0, 1) := by decide +kernel
theorem dX9_load_15 : decode cX9_load 15 = .ok (.getfield 42, 3) := by decide +kernel
theorem dX9_load_18 : decode cX9_load 18 = .ok (.iload_n 1, 1) := by decide +kernel
theorem dX9_load_19 : decode cX9_load 19 = .ok (.aaload, 1) := by decide +kernel
theorem dX9_load_20 : decode cX9_load 20 = .ok (.invokevirtual 336, 3) := by decide +kernel
theorem dX9_load_23 : decode cX9_load 23 = .ok (.ifCond .eq 11, 3) := by decide +kernel
theorem dX9_load_26 : decode cX9_load 26 = .ok (.aload_n 0, 1) := by decide +kernel
theorem dX9_load_27 : decode cX9_load 27 = .ok (.ldc_w 323, 3) := by decide +kernel
theorem dX9_load_30 : decode cX9_load 30 = .ok (.invokevirtual 57, 3) := by decide +kernel
theorem dX9_load_33 : decode cX9_load 33 = .ok (.ireturn, 1) := by decide +kernel
theorem dX9_load_34 : decode cX9_load 34 = .ok (.iconst 0, 1) := by decide +kernel
theorem dX9_load_35 : decode cX9_load 35 = .ok (.istore_n 2, 1) := by decide +kernel
theorem dX9_load_36 : decode cX9_load 36 = .ok (.aload_n 0, 1) := by decide +kernel
theorem dX9_load_37 : decode cX9_load 37 = .ok (.getfield 42, 3) := by decide +kernel
theorem dX9_load_40 : decode cX9_load 40 = .ok (.iload_n 1, 1) := by decide +kernel
theorem dX9_load_41 : decode cX9_load 41 = .ok (.aaload, 1) := by decide +kernel
theorem dX9_load_42 : decode cX9_load 42 = .ok (.getfield 335, 3) := by decide +kernel
theorem dX9_load_45 : decode cX9_load 45 = .ok (.aload_n 0, 1) := by decide +kernel
theorem dX9_load_46 : decode cX9_load 46 = .ok (.getfield 12, 3) := by decide +kernel
theorem dX9_load_49 : decode cX9_load 49 = .ok (.getfield 168, 3) := by decide +kernel
theorem dX9_load_52 : decode cX9_load 52 = .ok (.invokestatic 258, 3) := by decide +kernel
theorem dX9_load_55 : decode cX9_load 55 = .ok (.istore_n 3, 1) := by decide +kernel
theorem dX9_load_56 : decode cX9_load 56 = .ok (.iload_n 2, 1) := by decide +kernel
theorem dX9_load_57 : decode cX9_load 57 = .ok (.iload_n 3, 1) := by decide +kernel
theorem dX9_load_58 : decode cX9_load 58 = .ok (.if_icmp .ge 53, 3) := by decide +kernel
theorem dX9_load_61 : decode cX9_load 61 = .ok (.aload_n 0, 1) := by decide +kernel
theorem dX9_load_62 : decode cX9_load 62 = .ok (.getfield 42, 3) := by decide +kernel
theorem dX9_load_65 : decode cX9_load 65 = .ok (.iload_n 1, 1) := by decide +kernel
theorem dX9_load_66 : decode cX9_load 66 = .ok (.aaload, 1) := by decide +kernel
theorem dX9_load_67 : decode cX9_load 67 = .ok (.getfield 349, 3) := by decide +kernel
theorem dX9_load_70 : decode cX9_load 70 = .ok (.iload_n 2, 1) := by decide +kernel
theorem dX9_load_71 : decode cX9_load 71 = .ok (.iaload, 1) := by decide +kernel
theorem dX9_load_72 : decode cX9_load 72 = .ok (.iconst 1, 1) := by decide +kernel
theorem dX9_load_73 : decode cX9_load 73 = .ok (.sipush 9999, 3) := by decide +kernel
theorem dX9_load_76 : decode cX9_load 76 = .ok (.invokestatic 52, 3) := by decide +kernel
theorem dX9_load_79 : decode cX9_load 79 = .ok (.ifCond .eq 32, 3) := by decide +kernel
theorem dX9_load_82 : decode cX9_load 82 = .ok (.aload_n 0, 1) := by decide +kernel
theorem dX9_load_83 : decode cX9_load 83 = .ok (.getfield 12, 3) := by decide +kernel
theorem dX9_load_86 : decode cX9_load 86 = .ok (.getfield 177, 3) := by decide +kernel
theorem dX9_load_89 : decode cX9_load 89 = .ok (.iload_n 2, 1) := by decide +kernel
theorem dX9_load_90 : decode cX9_load 90 = .ok (.aaload, 1) := by decide +kernel
theorem dX9_load_91 : decode cX9_load 91 = .ok (.aload_n 0, 1) := by decide +kernel
theorem dX9_load_92 : decode cX9_load 92 = .ok (.getfield 42, 3) := by decide +kernel
theorem dX9_load_95 : decode cX9_load 95 = .ok (.iload_n 1, 1) := by decide +kernel
theorem dX9_load_96 : decode cX9_load 96 = .ok (.aaload, 1) := by decide +kernel
theorem dX9_load_97 : decode cX9_load 97 = .ok (.getfield 349, 3) := by decide +kernel
theorem dX9_load_100 : decode cX9_load 100 = .ok (.iload_n 2, 1) := by decide +kernel
theorem dX9_load_101 : decode cX9_load 101 = .ok (.iaload, 1) := by decide +kernel
theorem dX9_load_102 : decode cX9_load 102 = .ok (.putfield 181, 3) := by decide +kernel
theorem dX9_load_105 : decode cX9_load 105 = .ok (.iinc 2 1, 3) := by decide +kernel
theorem dX9_load_108 : decode cX9_load 108 = .ok (.goto (-52), 3) := by decide +kernel
theorem dX9_load_111 : decode cX9_load 111 = .ok (.iload_n 2, 1) := by decide +kernel
theorem dX9_load_112 : decode cX9_load 112 = .ok (.ireturn, 1) := by decide +kernel
theorem dX9_judge_0 : decode cX9_judge 0 = .ok (.iload_n 1, 1) := by decide +kernel
theorem dX9_judge_1 : decode cX9_judge 1 = .ok (.invokestatic 328, 3) := by decide +kernel
theorem dX9_judge_4 : decode cX9_judge 4 = .ok (.ifCond .ne 10, 3) := by decide +kernel
theorem dX9_judge_7 : decode cX9_judge 7 = .ok (.aload_n 0, 1) := by decide +kernel
theorem dX9_judge_8 : decode cX9_judge 8 = .ok (.ldc 56, 2) := by decide +kernel
theorem dX9_judge_10 : decode cX9_judge 10 = .ok (.invokevirtual 57, 3) := by decide +kernel
theorem dX9_judge_13 : decode cX9_judge 13 = .ok (.ireturn, 1) := by decide +kernel
theorem dX9_judge_14 : decode cX9_judge 14 = .ok (.aload_n 0, 1) := by decide +kernel
theorem dX9_judge_15 : decode cX9_judge 15 = .ok (.getfield 42, 3) := by decide +kernel
theorem dX9_judge_18 : decode cX9_judge 18 = .ok (.iload_n 1, 1) := by decide +kernel
theorem dX9_judge_19 : decode cX9_judge 19 = .ok (.aaload, 1) := by decide +kernel
theorem dX9_judge_20 : decode cX9_judge 20 = .ok (.invokevirtual 336, 3) := by decide +kernel
theorem dX9_judge_23 : decode cX9_judge 23 = .ok (.ifCond .eq 11, 3) := by decide +kernel
theorem dX9_judge_26 : decode cX9_judge 26 = .ok (.aload_n 0, 1) := by decide +kernel
theorem dX9_judge_27 : decode cX9_judge 27 = .ok (.ldc_w 323, 3) := by decide +kernel
theorem dX9_judge_30 : decode cX9_judge 30 = .ok (.invokevirtual 57, 3) := by decide +kernel
theorem dX9_judge_33 : decode cX9_judge 33 = .ok (.ireturn, 1) := by decide +kernel
theorem dX9_judge_34 : decode cX9_judge 34 = .ok (.aload_n 0, 1) := by decide +kernel
theorem dX9_judge_35 : decode cX9_judge 35 = .ok (.getfield 12, 3) := by decide +kernel
theorem dX9_judge_38 : decode cX9_judge 38 = .ok (.iload_n 2, 1) := by decide +kernel
theorem dX9_judge_39 : decode cX9_judge 39 = .ok (.invokevirtual 70, 3) := by decide +kernel
theorem dX9_judge_42 : decode cX9_judge 42 = .ok (.ifCond .ne 10, 3) := by decide +kernel
theorem dX9_judge_45 : decode cX9_judge 45 = .ok (.aload_n 0, 1) := by decide +kernel
theorem dX9_judge_46 : decode cX9_judge 46 = .ok (.ldc 56, 2) := by decide +kernel
theorem dX9_judge_48 : decode cX9_judge 48 = .ok (.invokevirtual 57, 3) := by decide +kernel
theorem dX9_judge_51 : decode cX9_judge 51 = .ok (.ireturn, 1) := by decide +kernel
theorem dX9_judge_52 : decode cX9_judge 52 = .ok (.aload_n 0, 1) := by decide +kernel
theorem dX9_judge_53 : decode cX9_judge 53 = .ok (.getfield 19, 3) := by decide +kernel
theorem dX9_judge_56 : decode cX9_judge 56 = .ok (.aload_n 0, 1) := by decide +kernel
theorem dX9_judge_57 : decode cX9_judge 57 = .ok (.getfield 12, 3) := by decide +kernel
theorem dX9_judge_60 : decode cX9_judge 60 = .ok (.invokevirtual 302, 3) := by decide +kernel
theorem dX9_judge_63 : decode cX9_judge 63 = .ok (.aload_n 0, 1) := by decide +kernel
theorem dX9_judge_64 : decode cX9_judge 64 = .ok (.getfield 19, 3) := by decide +kernel
theorem dX9_judge_67 : decode cX9_judge 67 = .ok (.iload_n 2, 1) := by decide +kernel
theorem dX9_judge_68 : decode cX9_judge 68 = .ok (.invokevirtual 358, 3) := by decide +kernel
theorem dX9_judge_71 : decode cX9_judge 71 = .ok (.iconst 0, 1) := by decide +kernel
theorem dX9_judge_72 : decode cX9_judge 72 = .ok (.istore_n 3, 1) := by decide +kernel
theorem dX9_judge_73 : decode cX9_judge 73 = .ok (.iconst 0, 1) := by decide +kernel
theorem dX9_judge_74 : decode cX9_judge 74 = .ok (.istore 4, 2) := by decide +kernel
theorem dX9_judge_76 : decode cX9_judge 76 = .ok (.iload 4, 2) := by decide +kernel
theorem dX9_judge_78 : decode cX9_judge 78 = .ok (.aload_n 0, 1) := by decide +kernel
theorem dX9_judge_79 : decode cX9_judge 79 = .ok (.getfield 42, 3) := by decide +kernel
theorem dX9_judge_82 : decode cX9_judge 82 = .ok (.iload_n 1, 1) := by decide +kernel
theorem dX9_judge_83 : decode cX9_judge 83 = .ok (.aaload, 1) := by decide +kernel
theorem dX9_judge_84 : decode cX9_judge 84 = .ok (.getfield 335, 3) := by decide +kernel
theorem dX9_judge_87 : decode cX9_judge 87 = .ok (.if_icmp .ge 74, 3) := by decide +kernel
theorem dX9_judge_90 : decode cX9_judge 90 = .ok (.aload_n 0, 1) := by decide +kernel
theorem dX9_judge_91 : decode cX9_judge 91 = .ok (.getfield 42, 3) := by decide +kernel
theorem dX9_judge_94 : decode cX9_judge 94 = .ok (.iload_n 1, 1) := by decide +kernel
theorem dX9_judge_95 : decode cX9_judge 95 = .ok (.aaload, 1) := by decide +kernel
theorem dX9_judge_96 : decode cX9_judge 96 = .ok (.getfield 349, 3) := by decide +kernel
theorem dX9_judge_99 : decode cX9_judge 99 = .ok (.iload 4, 2) := by decide +kernel
theorem dX9_judge_101 : decode cX9_judge 101 = .ok (.iaload, 1) := by decide +kernel
theorem dX9_judge_102 : decode cX9_judge 102 = .ok (.istore 5, 2) := by decide +kernel
theorem dX9_judge_104 : decode cX9_judge 104 = .ok (.iload 5, 2) := by decide +kernel
theorem dX9_judge_106 : decode cX9_judge 106 = .ok (.invokestatic 189, 3) := by decide +kernel
theorem dX9_judge_109 : decode cX9_judge 109 = .ok (.ifCond .eq 18, 3) := by decide +kernel
theorem dX9_judge_112 : decode cX9_judge 112 = .ok (.aload_n 0, 1) := by decide +kernel
theorem dX9_judge_113 : decode cX9_judge 113 = .ok (.getfield 19, 3) := by decide +kernel
theorem dX9_judge_116 : decode cX9_judge 116 = .ok (.iload_n 2, 1) := by decide +kernel
theorem dX9_judge_117 : decode cX9_judge 117 = .ok (.iload 5, 2) := by decide +kernel
theorem dX9_judge_119 : decode cX9_judge 119 = .ok (.invokevirtual 211, 3) := by decide +kernel
theorem dX9_judge_122 : decode cX9_judge 122 = .ok (.ldc 195, 2) := by decide +kernel
theorem dX9_judge_124 : decode cX9_judge 124 = .ok (.if_icmp .lt 10, 3) := by decide +kernel
theorem dX9_judge_127 : decode cX9_judge 127 = .ok (.aload_n 0, 1) := by decide +kernel
theorem dX9_judge_128 : decode cX9_judge 128 = .ok (.ldc 196, 2) := by decide +kernel
theorem dX9_judge_130 : decode cX9_judge 130 = .ok (.invokevirtual 57, 3) := by decide +kernel
theorem dX9_judge_133 : decode cX9_judge 133 = .ok (.ireturn, 1) := by decide +kernel
theorem dX9_judge_134 : decode cX9_judge 134 = .ok (.iload_n 3, 1) := by decide +kernel
theorem dX9_judge_135 : decode cX9_judge 135 = .ok (.aload_n 0, 1) := by decide +kernel
theorem dX9_judge_136 : decode cX9_judge 136 = .ok (.getfield 19, 3) := by decide +kernel
theorem dX9_judge_139 : decode cX9_judge 139 = .ok (.iload_n 2, 1) := by decide +kernel
theorem dX9_judge_140 : decode cX9_judge 140 = .ok (.iload 5, 2) := by decide +kernel
theorem dX9_judge_142 : decode cX9_judge 142 = .ok (.invokevirtual 214, 3) := by decide +kernel
theorem dX9_judge_145 : decode cX9_judge 145 = .ok (.iadd, 1) := by decide +kernel
theorem dX9_judge_146 : decode cX9_judge 146 = .ok (.istore_n 3, 1) := by decide +kernel
theorem dX9_judge_147 : decode cX9_judge 147 = .ok (.aload_n 0, 1) := by decide +kernel
theorem dX9_judge_148 : decode cX9_judge 148 = .ok (.getfield 19, 3) := by decide +kernel
theorem dX9_judge_151 : decode cX9_judge 151 = .ok (.iload_n 2, 1) := by decide +kernel
theorem dX9_judge_152 : decode cX9_judge 152 = .ok (.invokevirtual 358, 3) := by decide +kernel
theorem dX9_judge_155 : decode cX9_judge 155 = .ok (.iinc 4 1, 3) := by decide +kernel
theorem dX9_judge_158 : decode cX9_judge 158 = .ok (.goto (-82), 3) := by decide +kernel
theorem dX9_judge_161 : decode cX9_judge 161 = .ok (.iload_n 3, 1) := by decide +kernel
theorem dX9_judge_162 : decode cX9_judge 162 = .ok (.ireturn, 1) := by decide +kernel
theorem dX9_image_0 : decode cX9_image 0 = .ok (.aload_n 0, 1) := by decide +kernel
theorem dX9_image_1 : decode cX9_image 1 = .ok (.getfield 16, 3) := by decide +kernel
theorem dX9_image_4 : decode cX9_image 4 = .ok (.aload_n 0, 1) := by decide +kernel
theorem dX9_image_5 : decode cX9_image 5 = .ok (.getfield 12, 3) := by decide +kernel
theorem dX9_image_8 : decode cX9_image 8 = .ok (.invokevirtual 302, 3) := by decide +kernel
theorem dX9_image_11 : decode cX9_image 11 = .ok (.aload_n 0, 1) := by decide +kernel
theorem dX9_image_12 : decode cX9_image 12 = .ok (.iconst 1, 1) := by decide +kernel
theorem dX9_image_13 : decode cX9_image 13 = .ok (.putfield 361, 3) := by decide +kernel
theorem dX9_image_16 : decode cX9_image 16 = .ok (.iconst 1, 1) := by decide +kernel
theorem dX9_image_17 : decode cX9_image 17 = .ok (.ireturn, 1) := by decide +kernel
theorem dX9_undo_0 : decode cX9_undo 0 = .ok (.aload_n 0, 1) := by decide +kernel
theorem dX9_undo_1 : decode cX9_undo 1 = .ok (.getfield 361, 3) := by decide +kernel
theorem dX9_undo_4 : decode cX9_undo 4 = .ok (.ifCond .ne 10, 3) := by decide +kernel
theorem dX9_undo_7 : decode cX9_undo 7 = .ok (.aload_n 0, 1) := by decide +kernel
theorem dX9_undo_8 : decode cX9_undo 8 = .ok (.ldc 196, 2) := by decide +kernel
theorem dX9_undo_10 : decode cX9_undo 10 = .ok (.invokevirtual 57, 3) := by decide +kernel
theorem dX9_undo_13 : decode cX9_undo 13 = .ok (.ireturn, 1) := by decide +kernel
theorem dX9_undo_14 : decode cX9_undo 14 = .ok (.aload_n 0, 1) := by decide +kernel
theorem dX9_undo_15 : decode cX9_undo 15 = .ok (.getfield 12, 3) := by decide +kernel
theorem dX9_undo_18 : decode cX9_undo 18 = .ok (.aload_n 0, 1) := by decide +kernel
theorem dX9_undo_19 : decode cX9_undo 19 = .ok (.getfield 16, 3) := by decide +kernel
theorem dX9_undo_22 : decode cX9_undo 22 = .ok (.invokevirtual 302, 3) := by decide +kernel
theorem dX9_undo_25 : decode cX9_undo 25 = .ok (.aload_n 0, 1) := by decide +kernel
theorem dX9_undo_26 : decode cX9_undo 26 = .ok (.getfield 12, 3) := by decide +kernel
theorem dX9_undo_29 : decode cX9_undo 29 = .ok (.getfield 132, 3) := by decide +kernel
theorem dX9_undo_32 : decode cX9_undo 32 = .ok (.ireturn, 1) := by decide +kernel
theorem dX9_tear_0 : decode cX9_tear 0 = .ok (.aload_n 0, 1) := by decide +kernel
theorem dX9_tear_1 : decode cX9_tear 1 = .ok (.getfield 361, 3) := by decide +kernel
theorem dX9_tear_4 : decode cX9_tear 4 = .ok (.ifCond .eq 7, 3) := by decide +kernel
theorem dX9_tear_7 : decode cX9_tear 7 = .ok (.iconst 1, 1) := by decide +kernel
theorem dX9_tear_8 : decode cX9_tear 8 = .ok (.goto 4, 3) := by decide +kernel
theorem dX9_tear_11 : decode cX9_tear 11 = .ok (.iconst 0, 1) := by decide +kernel
theorem dX9_tear_12 : decode cX9_tear 12 = .ok (.istore_n 1, 1) := by decide +kernel
theorem dX9_tear_13 : decode cX9_tear 13 = .ok (.aload_n 0, 1) := by decide +kernel
theorem dX9_tear_14 : decode cX9_tear 14 = .ok (.iconst 0, 1) := by decide +kernel
theorem dX9_tear_15 : decode cX9_tear 15 = .ok (.putfield 361, 3) := by decide +kernel
theorem dX9_tear_18 : decode cX9_tear 18 = .ok (.iload_n 1, 1) := by decide +kernel
theorem dX9_tear_19 : decode cX9_tear 19 = .ok (.ireturn, 1) := by decide +kernel
theorem dX9_count_0 : decode cX9_count 0 = .ok (.iload_n 1, 1) := by decide +kernel
theorem dX9_count_1 : decode cX9_count 1 = .ok (.tableswitch 111 0 7 #[47, 55, 63, 71, 79, 87, 95, 103], 47) := by decide +kernel
theorem dX9_count_48 : decode cX9_count 48 = .ok (.aload_n 0, 1) := by decide +kernel
theorem dX9_count_49 : decode cX9_count 49 = .ok (.getfield 12, 3) := by decide +kernel
theorem dX9_count_52 : decode cX9_count 52 = .ok (.getfield 61, 3) := by decide +kernel
theorem dX9_count_55 : decode cX9_count 55 = .ok (.ireturn, 1) := by decide +kernel
theorem dX9_count_56 : decode cX9_count 56 = .ok (.aload_n 0, 1) := by decide +kernel
theorem dX9_count_57 : decode cX9_count 57 = .ok (.getfield 12, 3) := by decide +kernel
theorem dX9_count_60 : decode cX9_count 60 = .ok (.getfield 132, 3) := by decide +kernel
theorem dX9_count_63 : decode cX9_count 63 = .ok (.ireturn, 1) := by decide +kernel
theorem dX9_count_64 : decode cX9_count 64 = .ok (.aload_n 0, 1) := by decide +kernel
theorem dX9_count_65 : decode cX9_count 65 = .ok (.getfield 12, 3) := by decide +kernel
theorem dX9_count_68 : decode cX9_count 68 = .ok (.getfield 168, 3) := by decide +kernel
theorem dX9_count_71 : decode cX9_count 71 = .ok (.ireturn, 1) := by decide +kernel
theorem dX9_count_72 : decode cX9_count 72 = .ok (.aload_n 0, 1) := by decide +kernel
theorem dX9_count_73 : decode cX9_count 73 = .ok (.getfield 12, 3) := by decide +kernel
theorem dX9_count_76 : decode cX9_count 76 = .ok (.invokevirtual 223, 3) := by decide +kernel
theorem dX9_count_79 : decode cX9_count 79 = .ok (.ireturn, 1) := by decide +kernel
theorem dX9_count_80 : decode cX9_count 80 = .ok (.aload_n 0, 1) := by decide +kernel
theorem dX9_count_81 : decode cX9_count 81 = .ok (.getfield 12, 3) := by decide +kernel
theorem dX9_count_84 : decode cX9_count 84 = .ok (.invokevirtual 226, 3) := by decide +kernel
theorem dX9_count_87 : decode cX9_count 87 = .ok (.ireturn, 1) := by decide +kernel
theorem dX9_count_88 : decode cX9_count 88 = .ok (.aload_n 0, 1) := by decide +kernel
theorem dX9_count_89 : decode cX9_count 89 = .ok (.getfield 36, 3) := by decide +kernel
theorem dX9_count_92 : decode cX9_count 92 = .ok (.getfield 309, 3) := by decide +kernel
theorem dX9_count_95 : decode cX9_count 95 = .ok (.ireturn, 1) := by decide +kernel
theorem dX9_count_96 : decode cX9_count 96 = .ok (.aload_n 0, 1) := by decide +kernel
theorem dX9_count_97 : decode cX9_count 97 = .ok (.getfield 12, 3) := by decide +kernel
theorem dX9_count_100 : decode cX9_count 100 = .ok (.getfield 306, 3) := by decide +kernel
theorem dX9_count_103 : decode cX9_count 103 = .ok (.ireturn, 1) := by decide +kernel
theorem dX9_count_104 : decode cX9_count 104 = .ok (.aload_n 0, 1) := by decide +kernel
theorem dX9_count_105 : decode cX9_count 105 = .ok (.getfield 12, 3) := by decide +kernel
theorem dX9_count_108 : decode cX9_count 108 = .ok (.invokevirtual 365, 3) := by decide +kernel
theorem dX9_count_111 : decode cX9_count 111 = .ok (.ireturn, 1) := by decide +kernel
theorem dX9_count_112 : decode cX9_count 112 = .ok (.aload_n 0, 1) := by decide +kernel
theorem dX9_count_113 : decode cX9_count 113 = .ok (.ldc 56, 2) := by decide +kernel
theorem dX9_count_115 : decode cX9_count 115 = .ok (.invokevirtual 57, 3) := by decide +kernel
theorem dX9_count_118 : decode cX9_count 118 = .ok (.ireturn, 1) := by decide +kernel
theorem dX9_status_0 : decode cX9_status 0 = .ok (.iload_n 1, 1) := by decide +kernel
theorem dX9_status_1 : decode cX9_status 1 = .ok (.iconst (-1), 1) := by decide +kernel
theorem dX9_status_2 : decode cX9_status 2 = .ok (.bipush 6, 2) := by decide +kernel
theorem dX9_status_4 : decode cX9_status 4 = .ok (.invokestatic 52, 3) := by decide +kernel
theorem dX9_status_7 : decode cX9_status 7 = .ok (.ifCond .ne 10, 3) := by decide +kernel
theorem dX9_status_10 : decode cX9_status 10 = .ok (.aload_n 0, 1) := by decide +kernel
theorem dX9_status_11 : decode cX9_status 11 = .ok (.ldc 56, 2) := by decide +kernel
theorem dX9_status_13 : decode cX9_status 13 = .ok (.invokevirtual 57, 3) := by decide +kernel
theorem dX9_status_16 : decode cX9_status 16 = .ok (.ireturn, 1) := by decide +kernel
theorem dX9_status_17 : decode cX9_status 17 = .ok (.iload_n 1, 1) := by decide +kernel
theorem dX9_status_18 : decode cX9_status 18 = .ok (.ifCond .lt 10, 3) := by decide +kernel
theorem dX9_status_21 : decode cX9_status 21 = .ok (.aload_n 0, 1) := by decide +kernel
theorem dX9_status_22 : decode cX9_status 22 = .ok (.getfield 46, 3) := by decide +kernel
theorem dX9_status_25 : decode cX9_status 25 = .ok (.iload_n 1, 1) := by decide +kernel
theorem dX9_status_26 : decode cX9_status 26 = .ok (.iaload, 1) := by decide +kernel
theorem dX9_status_27 : decode cX9_status 27 = .ok (.ireturn, 1) := by decide +kernel
theorem dX9_status_28 : decode cX9_status 28 = .ok (.iconst 0, 1) := by decide +kernel
theorem dX9_status_29 : decode cX9_status 29 = .ok (.istore_n 2, 1) := by decide +kernel
theorem dX9_status_30 : decode cX9_status 30 = .ok (.iconst 0, 1) := by decide +kernel
theorem dX9_status_31 : decode cX9_status 31 = .ok (.istore_n 3, 1) := by decide +kernel
theorem dX9_status_32 : decode cX9_status 32 = .ok (.iload_n 3, 1) := by decide +kernel
theorem dX9_status_33 : decode cX9_status 33 = .ok (.bipush 7, 2) := by decide +kernel
theorem dX9_status_35 : decode cX9_status 35 = .ok (.if_icmp .ge 18, 3) := by decide +kernel
theorem dX9_status_38 : decode cX9_status 38 = .ok (.iload_n 2, 1) := by decide +kernel
theorem dX9_status_39 : decode cX9_status 39 = .ok (.aload_n 0, 1) := by decide +kernel
theorem dX9_status_40 : decode cX9_status 40 = .ok (.getfield 46, 3) := by decide +kernel
theorem dX9_status_43 : decode cX9_status 43 = .ok (.iload_n 3, 1) := by decide +kernel
theorem dX9_status_44 : decode cX9_status 44 = .ok (.iaload, 1) := by decide +kernel
theorem dX9_status_45 : decode cX9_status 45 = .ok (.iadd, 1) := by decide +kernel
theorem dX9_status_46 : decode cX9_status 46 = .ok (.istore_n 2, 1) := by decide +kernel
theorem dX9_status_47 : decode cX9_status 47 = .ok (.iinc 3 1, 3) := by decide +kernel
theorem dX9_status_50 : decode cX9_status 50 = .ok (.goto (-18), 3) := by decide +kernel
theorem dX9_status_53 : decode cX9_status 53 = .ok (.iload_n 2, 1) := by decide +kernel
theorem dX9_status_54 : decode cX9_status 54 = .ok (.ireturn, 1) := by decide +kernel
theorem dX9_finding_0 : decode cX9_finding 0 = .ok (.ldc 56, 2) := by decide +kernel
theorem dX9_finding_2 : decode cX9_finding 2 = .ok (.iload_n 1, 1) := by decide +kernel
theorem dX9_finding_3 : decode cX9_finding 3 = .ok (.isub, 1) := by decide +kernel
theorem dX9_finding_4 : decode cX9_finding 4 = .ok (.istore_n 2, 1) := by decide +kernel
theorem dX9_finding_5 : decode cX9_finding 5 = .ok (.iload_n 2, 1) := by decide +kernel
theorem dX9_finding_6 : decode cX9_finding 6 = .ok (.iconst 0, 1) := by decide +kernel
theorem dX9_finding_7 : decode cX9_finding 7 = .ok (.bipush 6, 2) := by decide +kernel
theorem dX9_finding_9 : decode cX9_finding 9 = .ok (.invokestatic 52, 3) := by decide +kernel
theorem dX9_finding_12 : decode cX9_finding 12 = .ok (.ifCond .eq 13, 3) := by decide +kernel
theorem dX9_finding_15 : decode cX9_finding 15 = .ok (.aload_n 0, 1) := by decide +kernel
theorem dX9_finding_16 : decode cX9_finding 16 = .ok (.getfield 46, 3) := by decide +kernel
theorem dX9_finding_19 : decode cX9_finding 19 = .ok (.iload_n 2, 1) := by decide +kernel
theorem dX9_finding_20 : decode cX9_finding 20 = .ok (.dup2, 1) := by decide +kernel
theorem dX9_finding_21 : decode cX9_finding 21 = .ok (.iaload, 1) := by decide +kernel
theorem dX9_finding_22 : decode cX9_finding 22 = .ok (.iconst 1, 1) := by decide +kernel
theorem dX9_finding_23 : decode cX9_finding 23 = .ok (.iadd, 1) := by decide +kernel
theorem dX9_finding_24 : decode cX9_finding 24 = .ok (.iastore, 1) := by decide +kernel
theorem dX9_finding_25 : decode cX9_finding 25 = .ok (.iload_n 1, 1) := by decide +kernel
theorem dX9_finding_26 : decode cX9_finding 26 = .ok (.ireturn, 1) := by decide +kernel
theorem dX9_orNone_0 : decode cX9_orNone 0 = .ok (.iload_n 1, 1) := by decide +kernel
theorem dX9_orNone_1 : decode cX9_orNone 1 = .ok (.ldc 195, 2) := by decide +kernel
theorem dX9_orNone_3 : decode cX9_orNone 3 = .ok (.if_icmp .lt 12, 3) := by decide +kernel
theorem dX9_orNone_6 : decode cX9_orNone 6 = .ok (.aload_n 0, 1) := by decide +kernel
theorem dX9_orNone_7 : decode cX9_orNone 7 = .ok (.ldc 196, 2) := by decide +kernel
theorem dX9_orNone_9 : decode cX9_orNone 9 = .ok (.invokevirtual 57, 3) := by decide +kernel
theorem dX9_orNone_12 : decode cX9_orNone 12 = .ok (.goto 4, 3) := by decide +kernel
theorem dX9_orNone_15 : decode cX9_orNone 15 = .ok (.iload_n 1, 1) := by decide +kernel
theorem dX9_orNone_16 : decode cX9_orNone 16 = .ok (.ireturn, 1) := by decide +kernel
theorem dX9_secondOrNone_0 : decode cX9_secondOrNone 0 = .ok (.iload_n 1, 1) := by decide +kernel
theorem dX9_secondOrNone_1 : decode cX9_secondOrNone 1 = .ok (.sipush 256, 3) := by decide +kernel
theorem dX9_secondOrNone_4 : decode cX9_secondOrNone 4 = .ok (.idiv, 1) := by decide +kernel
theorem dX9_secondOrNone_5 : decode cX9_secondOrNone 5 = .ok (.ldc 195, 2) := by decide +kernel
theorem dX9_secondOrNone_7 : decode cX9_secondOrNone 7 = .ok (.if_icmp .lt 12, 3) := by decide +kernel
theorem dX9_secondOrNone_10 : decode cX9_secondOrNone 10 = .ok (.aload_n 0, 1) := by decide +kernel
theorem dX9_secondOrNone_11 : decode cX9_secondOrNone 11 = .ok (.ldc 196, 2) := by decide +kernel
theorem dX9_secondOrNone_13 : decode cX9_secondOrNone 13 = .ok (.invokevirtual 57, 3) := by decide +kernel
theorem dX9_secondOrNone_16 : decode cX9_secondOrNone 16 = .ok (.goto 8, 3) := by decide +kernel
theorem dX9_secondOrNone_19 : decode cX9_secondOrNone 19 = .ok (.iload_n 1, 1) := by decide +kernel
theorem dX9_secondOrNone_20 : decode cX9_secondOrNone 20 = .ok (.sipush 256, 3) := by decide +kernel
theorem dX9_secondOrNone_23 : decode cX9_secondOrNone 23 = .ok (.irem, 1) := by decide +kernel
theorem dX9_secondOrNone_24 : decode cX9_secondOrNone 24 = .ok (.ireturn, 1) := by decide +kernel
theorem dX9_within_0 : decode cX9_within 0 = .ok (.iload_n 0, 1) := by decide +kernel
theorem dX9_within_1 : decode cX9_within 1 = .ok (.iload_n 1, 1) := by decide +kernel
theorem dX9_within_2 : decode cX9_within 2 = .ok (.if_icmp .lt 12, 3) := by decide +kernel
theorem dX9_within_5 : decode cX9_within 5 = .ok (.iload_n 0, 1) := by decide +kernel
theorem dX9_within_6 : decode cX9_within 6 = .ok (.iload_n 2, 1) := by decide +kernel
theorem dX9_within_7 : decode cX9_within 7 = .ok (.if_icmp .gt 7, 3) := by decide +kernel
theorem dX9_within_10 : decode cX9_within 10 = .ok (.iconst 1, 1) := by decide +kernel
theorem dX9_within_11 : decode cX9_within 11 = .ok (.goto 4, 3) := by decide +kernel
theorem dX9_within_14 : decode cX9_within 14 = .ok (.iconst 0, 1) := by decide +kernel
theorem dX9_within_15 : decode cX9_within 15 = .ok (.ireturn, 1) := by decide +kernel
theorem dX9_has_0 : decode cX9_has 0 = .ok (.iload_n 0, 1) := by decide +kernel
theorem dX9_has_1 : decode cX9_has 1 = .ok (.iload_n 1, 1) := by decide +kernel
theorem dX9_has_2 : decode cX9_has 2 = .ok (.ishr, 1) := by decide +kernel
theorem dX9_has_3 : decode cX9_has 3 = .ok (.iconst 1, 1) := by decide +kernel
theorem dX9_has_4 : decode cX9_has 4 = .ok (.iand, 1) := by decide +kernel
theorem dX9_has_5 : decode cX9_has 5 = .ok (.ifCond .eq 7, 3) := by decide +kernel
theorem dX9_has_8 : decode cX9_has 8 = .ok (.iconst 1, 1) := by decide +kernel
theorem dX9_has_9 : decode cX9_has 9 = .ok (.goto 4, 3) := by decide +kernel
theorem dX9_has_12 : decode cX9_has 12 = .ok (.iconst 0, 1) := by decide +kernel
theorem dX9_has_13 : decode cX9_has 13 = .ok (.ireturn, 1) := by decide +kernel
theorem dX9_isPlace_0 : decode cX9_isPlace 0 = .ok (.iload_n 0, 1) := by decide +kernel
theorem dX9_isPlace_1 : decode cX9_isPlace 1 = .ok (.iconst 0, 1) := by decide +kernel
theorem dX9_isPlace_2 : decode cX9_isPlace 2 = .ok (.bipush 6, 2) := by decide +kernel
theorem dX9_isPlace_4 : decode cX9_isPlace 4 = .ok (.invokestatic 52, 3) := by decide +kernel
theorem dX9_isPlace_7 : decode cX9_isPlace 7 = .ok (.ireturn, 1) := by decide +kernel
theorem dX9_areUnlikePlaces_0 : decode cX9_areUnlikePlaces 0 = .ok (.iload_n 0, 1) := by decide +kernel
theorem dX9_areUnlikePlaces_1 : decode cX9_areUnlikePlaces 1 = .ok (.invokestatic 189, 3) := by decide +kernel
theorem dX9_areUnlikePlaces_4 : decode cX9_areUnlikePlaces 4 = .ok (.ifCond .eq 19, 3) := by decide +kernel
theorem dX9_areUnlikePlaces_7 : decode cX9_areUnlikePlaces 7 = .ok (.iload_n 1, 1) := by decide +kernel
theorem dX9_areUnlikePlaces_8 : decode cX9_areUnlikePlaces 8 = .ok (.invokestatic 189, 3) := by decide +kernel
theorem dX9_areUnlikePlaces_11 : decode cX9_areUnlikePlaces 11 = .ok (.ifCond .eq 12, 3) := by decide +kernel
theorem dX9_areUnlikePlaces_14 : decode cX9_areUnlikePlaces 14 = .ok (.iload_n 0, 1) := by decide +kernel
theorem dX9_areUnlikePlaces_15 : decode cX9_areUnlikePlaces 15 = .ok (.iload_n 1, 1) := by decide +kernel
theorem dX9_areUnlikePlaces_16 : decode cX9_areUnlikePlaces 16 = .ok (.if_icmp .eq 7, 3) := by decide +kernel
theorem dX9_areUnlikePlaces_19 : decode cX9_areUnlikePlaces 19 = .ok (.iconst 1, 1) := by decide +kernel
theorem dX9_areUnlikePlaces_20 : decode cX9_areUnlikePlaces 20 = .ok (.goto 4, 3) := by decide +kernel
theorem dX9_areUnlikePlaces_23 : decode cX9_areUnlikePlaces 23 = .ok (.iconst 0, 1) := by decide +kernel
theorem dX9_areUnlikePlaces_24 : decode cX9_areUnlikePlaces 24 = .ok (.ireturn, 1) := by decide +kernel
theorem dX9_isSheet_0 : decode cX9_isSheet 0 = .ok (.iload_n 0, 1) := by decide +kernel
theorem dX9_isSheet_1 : decode cX9_isSheet 1 = .ok (.iconst 0, 1) := by decide +kernel
theorem dX9_isSheet_2 : decode cX9_isSheet 2 = .ok (.iconst 3, 1) := by decide +kernel
theorem dX9_isSheet_3 : decode cX9_isSheet 3 = .ok (.invokestatic 52, 3) := by decide +kernel
theorem dX9_isSheet_6 : decode cX9_isSheet 6 = .ok (.ireturn, 1) := by decide +kernel
theorem dX9_isChange_0 : decode cX9_isChange 0 = .ok (.iload_n 0, 1) := by decide +kernel
theorem dX9_isChange_1 : decode cX9_isChange 1 = .ok (.tableswitch 61 0 3 #[31, 39, 44, 52], 31) := by decide +kernel
theorem dX9_isChange_32 : decode cX9_isChange 32 = .ok (.iload_n 1, 1) := by decide +kernel
theorem dX9_isChange_33 : decode cX9_isChange 33 = .ok (.iconst 0, 1) := by decide +kernel
theorem dX9_isChange_34 : decode cX9_isChange 34 = .ok (.bipush 6, 2) := by decide +kernel
theorem dX9_isChange_36 : decode cX9_isChange 36 = .ok (.invokestatic 52, 3) := by decide +kernel
theorem dX9_isChange_39 : decode cX9_isChange 39 = .ok (.ireturn, 1) := by decide +kernel
theorem dX9_isChange_40 : decode cX9_isChange 40 = .ok (.iload_n 1, 1) := by decide +kernel
theorem dX9_isChange_41 : decode cX9_isChange 41 = .ok (.invokestatic 189, 3) := by decide +kernel
theorem dX9_isChange_44 : decode cX9_isChange 44 = .ok (.ireturn, 1) := by decide +kernel
theorem dX9_isChange_45 : decode cX9_isChange 45 = .ok (.iload_n 1, 1) := by decide +kernel
theorem dX9_isChange_46 : decode cX9_isChange 46 = .ok (.iconst 1, 1) := by decide +kernel
theorem dX9_isChange_47 : decode cX9_isChange 47 = .ok (.bipush 99, 2) := by decide +kernel
theorem dX9_isChange_49 : decode cX9_isChange 49 = .ok (.invokestatic 52, 3) := by decide +kernel
theorem dX9_isChange_52 : decode cX9_isChange 52 = .ok (.ireturn, 1) := by decide +kernel
theorem dX9_isChange_53 : decode cX9_isChange 53 = .ok (.iload_n 1, 1) := by decide +kernel
theorem dX9_isChange_54 : decode cX9_isChange 54 = .ok (.iconst 0, 1) := by decide +kernel
theorem dX9_isChange_55 : decode cX9_isChange 55 = .ok (.ldc_w 368, 3) := by decide +kernel
theorem dX9_isChange_58 : decode cX9_isChange 58 = .ok (.invokestatic 52, 3) := by decide +kernel
theorem dX9_isChange_61 : decode cX9_isChange 61 = .ok (.ireturn, 1) := by decide +kernel
theorem dX9_isChange_62 : decode cX9_isChange 62 = .ok (.iconst 0, 1) := by decide +kernel
theorem dX9_isChange_63 : decode cX9_isChange 63 = .ok (.ireturn, 1) := by decide +kernel
theorem dX9_areErrands_0 : decode cX9_areErrands 0 = .ok (.iload_n 1, 1) := by decide +kernel
theorem dX9_areErrands_1 : decode cX9_areErrands 1 = .ok (.iconst 0, 1) := by decide +kernel
theorem dX9_areErrands_2 : decode cX9_areErrands 2 = .ok (.iconst 1, 1) := by decide +kernel
theorem dX9_areErrands_3 : decode cX9_areErrands 3 = .ok (.aload_n 0, 1) := by decide +kernel
theorem dX9_areErrands_4 : decode cX9_areErrands 4 = .ok (.getfield 12, 3) := by decide +kernel
theorem dX9_areErrands_7 : decode cX9_areErrands 7 = .ok (.getfield 132, 3) := by decide +kernel
theorem dX9_areErrands_10 : decode cX9_areErrands 10 = .ok (.ishl, 1) := by decide +kernel
theorem dX9_areErrands_11 : decode cX9_areErrands 11 = .ok (.iconst 1, 1) := by decide +kernel
theorem dX9_areErrands_12 : decode cX9_areErrands 12 = .ok (.isub, 1) := by decide +kernel
theorem dX9_areErrands_13 : decode cX9_areErrands 13 = .ok (.invokestatic 52, 3) := by decide +kernel
theorem dX9_areErrands_16 : decode cX9_areErrands 16 = .ok (.ireturn, 1) := by decide +kernel
theorem dX9_isFewErrands_0 : decode cX9_isFewErrands 0 = .ok (.aload_n 0, 1) := by decide +kernel
theorem dX9_isFewErrands_1 : decode cX9_isFewErrands 1 = .ok (.iload_n 1, 1) := by decide +kernel
theorem dX9_isFewErrands_2 : decode cX9_isFewErrands 2 = .ok (.invokevirtual 293, 3) := by decide +kernel
theorem dX9_isFewErrands_5 : decode cX9_isFewErrands 5 = .ok (.ifCond .eq 15, 3) := by decide +kernel
theorem dX9_isFewErrands_8 : decode cX9_isFewErrands 8 = .ok (.iload_n 1, 1) := by decide +kernel
theorem dX9_isFewErrands_9 : decode cX9_isFewErrands 9 = .ok (.invokestatic 369, 3) := by decide +kernel
theorem dX9_isFewErrands_12 : decode cX9_isFewErrands 12 = .ok (.iconst 5, 1) := by decide +kernel
theorem dX9_isFewErrands_13 : decode cX9_isFewErrands 13 = .ok (.if_icmp .gt 7, 3) := by decide +kernel
theorem dX9_isFewErrands_16 : decode cX9_isFewErrands 16 = .ok (.iconst 1, 1) := by decide +kernel
theorem dX9_isFewErrands_17 : decode cX9_isFewErrands 17 = .ok (.goto 4, 3) := by decide +kernel
theorem dX9_isFewErrands_20 : decode cX9_isFewErrands 20 = .ok (.iconst 0, 1) := by decide +kernel
theorem dX9_isFewErrands_21 : decode cX9_isFewErrands 21 = .ok (.ireturn, 1) := by decide +kernel
theorem dX9_roundLack_0 : decode cX9_roundLack 0 = .ok (.aload_n 0, 1) := by decide +kernel
theorem dX9_roundLack_1 : decode cX9_roundLack 1 = .ok (.getfield 12, 3) := by decide +kernel
theorem dX9_roundLack_4 : decode cX9_roundLack 4 = .ok (.iload_n 1, 1) := by decide +kernel
theorem dX9_roundLack_5 : decode cX9_roundLack 5 = .ok (.invokevirtual 70, 3) := by decide +kernel
theorem dX9_roundLack_8 : decode cX9_roundLack 8 = .ok (.ifCond .eq 11, 3) := by decide +kernel
theorem dX9_roundLack_11 : decode cX9_roundLack 11 = .ok (.aload_n 0, 1) := by decide +kernel
theorem dX9_roundLack_12 : decode cX9_roundLack 12 = .ok (.iload_n 2, 1) := by decide +kernel
theorem dX9_roundLack_13 : decode cX9_roundLack 13 = .ok (.invokevirtual 236, 3) := by decide +kernel
theorem dX9_roundLack_16 : decode cX9_roundLack 16 = .ok (.ifCond .ne 6, 3) := by decide +kernel
theorem dX9_roundLack_19 : decode cX9_roundLack 19 = .ok (.ldc 56, 2) := by decide +kernel
theorem dX9_roundLack_21 : decode cX9_roundLack 21 = .ok (.ireturn, 1) := by decide +kernel
theorem dX9_roundLack_22 : decode cX9_roundLack 22 = .ok (.aload_n 0, 1) := by decide +kernel
theorem dX9_roundLack_23 : decode cX9_roundLack 23 = .ok (.getfield 12, 3) := by decide +kernel
theorem dX9_roundLack_26 : decode cX9_roundLack 26 = .ok (.iload_n 2, 1) := by decide +kernel
theorem dX9_roundLack_27 : decode cX9_roundLack 27 = .ok (.invokevirtual 254, 3) := by decide +kernel
theorem dX9_roundLack_30 : decode cX9_roundLack 30 = .ok (.ifCond .eq 18, 3) := by decide +kernel
theorem dX9_roundLack_33 : decode cX9_roundLack 33 = .ok (.aload_n 0, 1) := by decide +kernel
theorem dX9_roundLack_34 : decode cX9_roundLack 34 = .ok (.getfield 12, 3) := by decide +kernel
theorem dX9_roundLack_37 : decode cX9_roundLack 37 = .ok (.iload_n 1, 1) := by decide +kernel
theorem dX9_roundLack_38 : decode cX9_roundLack 38 = .ok (.invokevirtual 99, 3) := by decide +kernel
theorem dX9_roundLack_41 : decode cX9_roundLack 41 = .ok (.ifCond .ne 7, 3) := by decide +kernel
theorem dX9_roundLack_44 : decode cX9_roundLack 44 = .ok (.iconst 0, 1) := by decide +kernel
theorem dX9_roundLack_45 : decode cX9_roundLack 45 = .ok (.goto 5, 3) := by decide +kernel
theorem dX9_roundLack_48 : decode cX9_roundLack 48 = .ok (.ldc 203, 2) := by decide +kernel
theorem dX9_roundLack_50 : decode cX9_roundLack 50 = .ok (.ireturn, 1) := by decide +kernel
theorem dX9_buyingLack_0 : decode cX9_buyingLack 0 = .ok (.aload_n 0, 1) := by decide +kernel
theorem dX9_buyingLack_1 : decode cX9_buyingLack 1 = .ok (.getfield 12, 3) := by decide +kernel
theorem dX9_buyingLack_4 : decode cX9_buyingLack 4 = .ok (.iload_n 1, 1) := by decide +kernel
theorem dX9_buyingLack_5 : decode cX9_buyingLack 5 = .ok (.invokevirtual 70, 3) := by decide +kernel
theorem dX9_buyingLack_8 : decode cX9_buyingLack 8 = .ok (.ifCond .eq 14, 3) := by decide +kernel
theorem dX9_buyingLack_11 : decode cX9_buyingLack 11 = .ok (.aload_n 0, 1) := by decide +kernel
theorem dX9_buyingLack_12 : decode cX9_buyingLack 12 = .ok (.getfield 12, 3) := by decide +kernel
theorem dX9_buyingLack_15 : decode cX9_buyingLack 15 = .ok (.iload_n 2, 1) := by decide +kernel
theorem dX9_buyingLack_16 : decode cX9_buyingLack 16 = .ok (.invokevirtual 174, 3) := by decide +kernel
theorem dX9_buyingLack_19 : decode cX9_buyingLack 19 = .ok (.ifCond .ne 6, 3) := by decide +kernel
theorem dX9_buyingLack_22 : decode cX9_buyingLack 22 = .ok (.ldc 56, 2) := by decide +kernel
theorem dX9_buyingLack_24 : decode cX9_buyingLack 24 = .ok (.ireturn, 1) := by decide +kernel
theorem dX9_buyingLack_25 : decode cX9_buyingLack 25 = .ok (.aload_n 0, 1) := by decide +kernel
theorem dX9_buyingLack_26 : decode cX9_buyingLack 26 = .ok (.getfield 12, 3) := by decide +kernel
theorem dX9_buyingLack_29 : decode cX9_buyingLack 29 = .ok (.getfield 177, 3) := by decide +kernel
theorem dX9_buyingLack_32 : decode cX9_buyingLack 32 = .ok (.iload_n 2, 1) := by decide +kernel
theorem dX9_buyingLack_33 : decode cX9_buyingLack 33 = .ok (.aaload, 1) := by decide +kernel
theorem dX9_buyingLack_34 : decode cX9_buyingLack 34 = .ok (.getfield 186, 3) := by decide +kernel
theorem dX9_buyingLack_37 : decode cX9_buyingLack 37 = .ok (.iconst (-1), 1) := by decide +kernel
theorem dX9_buyingLack_38 : decode cX9_buyingLack 38 = .ok (.if_icmp .ne 18, 3) := by decide +kernel
theorem dX9_buyingLack_41 : decode cX9_buyingLack 41 = .ok (.aload_n 0, 1) := by decide +kernel
theorem dX9_buyingLack_42 : decode cX9_buyingLack 42 = .ok (.getfield 12, 3) := by decide +kernel
theorem dX9_buyingLack_45 : decode cX9_buyingLack 45 = .ok (.iload_n 1, 1) := by decide +kernel
theorem dX9_buyingLack_46 : decode cX9_buyingLack 46 = .ok (.invokevirtual 99, 3) := by decide +kernel
theorem dX9_buyingLack_49 : decode cX9_buyingLack 49 = .ok (.ifCond .ne 7, 3) := by decide +kernel
theorem dX9_buyingLack_52 : decode cX9_buyingLack 52 = .ok (.iconst 0, 1) := by decide +kernel
theorem dX9_buyingLack_53 : decode cX9_buyingLack 53 = .ok (.goto 5, 3) := by decide +kernel
theorem dX9_buyingLack_56 : decode cX9_buyingLack 56 = .ok (.ldc 203, 2) := by decide +kernel
theorem dX9_buyingLack_58 : decode cX9_buyingLack 58 = .ok (.ireturn, 1) := by decide +kernel
theorem dX9_sharingLack_0 : decode cX9_sharingLack 0 = .ok (.iload_n 1, 1) := by decide +kernel
theorem dX9_sharingLack_1 : decode cX9_sharingLack 1 = .ok (.iload_n 2, 1) := by decide +kernel
theorem dX9_sharingLack_2 : decode cX9_sharingLack 2 = .ok (.if_icmp .eq 14, 3) := by decide +kernel
theorem dX9_sharingLack_5 : decode cX9_sharingLack 5 = .ok (.aload_n 0, 1) := by decide +kernel
theorem dX9_sharingLack_6 : decode cX9_sharingLack 6 = .ok (.getfield 12, 3) := by decide +kernel
theorem dX9_sharingLack_9 : decode cX9_sharingLack 9 = .ok (.iload_n 2, 1) := by decide +kernel
theorem dX9_sharingLack_10 : decode cX9_sharingLack 10 = .ok (.invokevirtual 70, 3) := by decide +kernel
theorem dX9_sharingLack_13 : decode cX9_sharingLack 13 = .ok (.ifCond .ne 6, 3) := by decide +kernel
theorem dX9_sharingLack_16 : decode cX9_sharingLack 16 = .ok (.ldc 56, 2) := by decide +kernel
theorem dX9_sharingLack_18 : decode cX9_sharingLack 18 = .ok (.ireturn, 1) := by decide +kernel
theorem dX9_sharingLack_19 : decode cX9_sharingLack 19 = .ok (.aload_n 0, 1) := by decide +kernel
theorem dX9_sharingLack_20 : decode cX9_sharingLack 20 = .ok (.iload_n 1, 1) := by decide +kernel
theorem dX9_sharingLack_21 : decode cX9_sharingLack 21 = .ok (.iload_n 3, 1) := by decide +kernel
theorem dX9_sharingLack_22 : decode cX9_sharingLack 22 = .ok (.invokevirtual 229, 3) := by decide +kernel
theorem dX9_sharingLack_25 : decode cX9_sharingLack 25 = .ok (.istore 4, 2) := by decide +kernel
theorem dX9_sharingLack_27 : decode cX9_sharingLack 27 = .ok (.iload 4, 2) := by decide +kernel
theorem dX9_sharingLack_29 : decode cX9_sharingLack 29 = .ok (.ifCond .eq 6, 3) := by decide +kernel
theorem dX9_sharingLack_32 : decode cX9_sharingLack 32 = .ok (.iload 4, 2) := by decide +kernel
theorem dX9_sharingLack_34 : decode cX9_sharingLack 34 = .ok (.ireturn, 1) := by decide +kernel
theorem dX9_sharingLack_35 : decode cX9_sharingLack 35 = .ok (.aload_n 0, 1) := by decide +kernel
theorem dX9_sharingLack_36 : decode cX9_sharingLack 36 = .ok (.getfield 12, 3) := by decide +kernel
theorem dX9_sharingLack_39 : decode cX9_sharingLack 39 = .ok (.iload_n 2, 1) := by decide +kernel
theorem dX9_sharingLack_40 : decode cX9_sharingLack 40 = .ok (.invokevirtual 99, 3) := by decide +kernel
theorem dX9_sharingLack_43 : decode cX9_sharingLack 43 = .ok (.ifCond .ne 7, 3) := by decide +kernel
theorem dX9_sharingLack_46 : decode cX9_sharingLack 46 = .ok (.iconst 0, 1) := by decide +kernel
theorem dX9_sharingLack_47 : decode cX9_sharingLack 47 = .ok (.goto 5, 3) := by decide +kernel
theorem dX9_sharingLack_50 : decode cX9_sharingLack 50 = .ok (.ldc 203, 2) := by decide +kernel
theorem dX9_sharingLack_52 : decode cX9_sharingLack 52 = .ok (.ireturn, 1) := by decide +kernel
theorem dX9_dayLack_0 : decode cX9_dayLack 0 = .ok (.iload_n 1, 1) := by decide +kernel
theorem dX9_dayLack_1 : decode cX9_dayLack 1 = .ok (.iconst 1, 1) := by decide +kernel
theorem dX9_dayLack_2 : decode cX9_dayLack 2 = .ok (.bipush 12, 2) := by decide +kernel
theorem dX9_dayLack_4 : decode cX9_dayLack 4 = .ok (.invokestatic 52, 3) := by decide +kernel
theorem dX9_dayLack_7 : decode cX9_dayLack 7 = .ok (.ifCond .ne 6, 3) := by decide +kernel
theorem dX9_dayLack_10 : decode cX9_dayLack 10 = .ok (.ldc 56, 2) := by decide +kernel
theorem dX9_dayLack_12 : decode cX9_dayLack 12 = .ok (.ireturn, 1) := by decide +kernel
theorem dX9_dayLack_13 : decode cX9_dayLack 13 = .ok (.aload_n 0, 1) := by decide +kernel
theorem dX9_dayLack_14 : decode cX9_dayLack 14 = .ok (.getfield 12, 3) := by decide +kernel
theorem dX9_dayLack_17 : decode cX9_dayLack 17 = .ok (.getfield 61, 3) := by decide +kernel
theorem dX9_dayLack_20 : decode cX9_dayLack 20 = .ok (.ifCond .le 7, 3) := by decide +kernel
theorem dX9_dayLack_23 : decode cX9_dayLack 23 = .ok (.iconst 0, 1) := by decide +kernel
theorem dX9_dayLack_24 : decode cX9_dayLack 24 = .ok (.goto 5, 3) := by decide +kernel
theorem dX9_dayLack_27 : decode cX9_dayLack 27 = .ok (.ldc 203, 2) := by decide +kernel
theorem dX9_dayLack_29 : decode cX9_dayLack 29 = .ok (.ireturn, 1) := by decide +kernel
theorem dX9_yardsOfRound_0 : decode cX9_yardsOfRound 0 = .ok (.aload_n 0, 1) := by decide +kernel
theorem dX9_yardsOfRound_1 : decode cX9_yardsOfRound 1 = .ok (.getfield 25, 3) := by decide +kernel
theorem dX9_yardsOfRound_4 : decode cX9_yardsOfRound 4 = .ok (.aload_n 1, 1) := by decide +kernel
theorem dX9_yardsOfRound_5 : decode cX9_yardsOfRound 5 = .ok (.iload_n 2, 1) := by decide +kernel
theorem dX9_yardsOfRound_6 : decode cX9_yardsOfRound 6 = .ok (.aload_n 1, 1) := by decide +kernel
theorem dX9_yardsOfRound_7 : decode cX9_yardsOfRound 7 = .ok (.getfield 74, 3) := by decide +kernel
theorem dX9_yardsOfRound_10 : decode cX9_yardsOfRound 10 = .ok (.iload_n 2, 1) := by decide +kernel
theorem dX9_yardsOfRound_11 : decode cX9_yardsOfRound 11 = .ok (.aaload, 1) := by decide +kernel
theorem dX9_yardsOfRound_12 : decode cX9_yardsOfRound 12 = .ok (.getfield 78, 3) := by decide +kernel
theorem dX9_yardsOfRound_15 : decode cX9_yardsOfRound 15 = .ok (.iload_n 3, 1) := by decide +kernel
theorem dX9_yardsOfRound_16 : decode cX9_yardsOfRound 16 = .ok (.invokevirtual 280, 3) := by decide +kernel
theorem dX9_yardsOfRound_19 : decode cX9_yardsOfRound 19 = .ok (.aload_n 0, 1) := by decide +kernel
theorem dX9_yardsOfRound_20 : decode cX9_yardsOfRound 20 = .ok (.getfield 25, 3) := by decide +kernel
theorem dX9_yardsOfRound_23 : decode cX9_yardsOfRound 23 = .ok (.iload_n 3, 1) := by decide +kernel
theorem dX9_yardsOfRound_24 : decode cX9_yardsOfRound 24 = .ok (.invokevirtual 263, 3) := by decide +kernel
theorem dX9_yardsOfRound_27 : decode cX9_yardsOfRound 27 = .ok (.ireturn, 1) := by decide +kernel
theorem dX9_shortestEarning_0 : decode cX9_shortestEarning 0 = .ok (.aload_n 0, 1) := by decide +kernel
theorem dX9_shortestEarning_1 : decode cX9_shortestEarning 1 = .ok (.getfield 12, 3) := by decide +kernel
theorem dX9_shortestEarning_4 : decode cX9_shortestEarning 4 = .ok (.getfield 177, 3) := by decide +kernel
theorem dX9_shortestEarning_7 : decode cX9_shortestEarning 7 = .ok (.iload_n 2, 1) := by decide +kernel
theorem dX9_shortestEarning_8 : decode cX9_shortestEarning 8 = .ok (.aaload, 1) := by decide +kernel
theorem dX9_shortestEarning_9 : decode cX9_shortestEarning 9 = .ok (.getfield 181, 3) := by decide +kernel
theorem dX9_shortestEarning_12 : decode cX9_shortestEarning 12 = .ok (.aload_n 0, 1) := by decide +kernel
theorem dX9_shortestEarning_13 : decode cX9_shortestEarning 13 = .ok (.getfield 12, 3) := by decide +kernel
theorem dX9_shortestEarning_16 : decode cX9_shortestEarning 16 = .ok (.getfield 74, 3) := by decide +kernel
theorem dX9_shortestEarning_19 : decode cX9_shortestEarning 19 = .ok (.iload_n 1, 1) := by decide +kernel
theorem dX9_shortestEarning_20 : decode cX9_shortestEarning 20 = .ok (.aaload, 1) := by decide +kernel
theorem dX9_shortestEarning_21 : decode cX9_shortestEarning 21 = .ok (.getfield 89, 3) := by decide +kernel
theorem dX9_shortestEarning_24 : decode cX9_shortestEarning 24 = .ok (.isub, 1) := by decide +kernel
theorem dX9_shortestEarning_25 : decode cX9_shortestEarning 25 = .ok (.istore_n 3, 1) := by decide +kernel
theorem dX9_shortestEarning_26 : decode cX9_shortestEarning 26 = .ok (.aload_n 0, 1) := by decide +kernel
theorem dX9_shortestEarning_27 : decode cX9_shortestEarning 27 = .ok (.getfield 12, 3) := by decide +kernel
theorem dX9_shortestEarning_30 : decode cX9_shortestEarning 30 = .ok (.iload_n 1, 1) := by decide +kernel
theorem dX9_shortestEarning_31 : decode cX9_shortestEarning 31 = .ok (.invokevirtual 374, 3) := by decide +kernel
theorem dX9_shortestEarning_34 : decode cX9_shortestEarning 34 = .ok (.istore 4, 2) := by decide +kernel
theorem dX9_shortestEarning_36 : decode cX9_shortestEarning 36 = .ok (.ldc_w 257, 3) := by decide +kernel
theorem dX9_shortestEarning_39 : decode cX9_shortestEarning 39 = .ok (.istore 5, 2) := by decide +kernel
theorem dX9_shortestEarning_41 : decode cX9_shortestEarning 41 = .ok (.iconst 0, 1) := by decide +kernel
theorem dX9_shortestEarning_42 : decode cX9_shortestEarning 42 = .ok (.istore 6, 2) := by decide +kernel
theorem dX9_shortestEarning_44 : decode cX9_shortestEarning 44 = .ok (.iload 6, 2) := by decide +kernel
theorem dX9_shortestEarning_46 : decode cX9_shortestEarning 46 = .ok (.iload 4, 2) := by decide +kernel
theorem dX9_shortestEarning_48 : decode cX9_shortestEarning 48 = .ok (.if_icmp .gt 67, 3) := by decide +kernel
theorem dX9_shortestEarning_51 : decode cX9_shortestEarning 51 = .ok (.iload 6, 2) := by decide +kernel
theorem dX9_shortestEarning_53 : decode cX9_shortestEarning 53 = .ok (.iload 4, 2) := by decide +kernel
theorem dX9_shortestEarning_55 : decode cX9_shortestEarning 55 = .ok (.iconst (-1), 1) := by decide +kernel
theorem dX9_shortestEarning_56 : decode cX9_shortestEarning 56 = .ok (.ixor, 1) := by decide +kernel
theorem dX9_shortestEarning_57 : decode cX9_shortestEarning 57 = .ok (.iand, 1) := by decide +kernel
theorem dX9_shortestEarning_58 : decode cX9_shortestEarning 58 = .ok (.ifCond .ne 51, 3) := by decide +kernel
theorem dX9_shortestEarning_61 : decode cX9_shortestEarning 61 = .ok (.iload 6, 2) := by decide +kernel
theorem dX9_shortestEarning_63 : decode cX9_shortestEarning 63 = .ok (.invokestatic 369, 3) := by decide +kernel
theorem dX9_shortestEarning_66 : decode cX9_shortestEarning 66 = .ok (.iconst 5, 1) := by decide +kernel
theorem dX9_shortestEarning_67 : decode cX9_shortestEarning 67 = .ok (.if_icmp .gt 42, 3) := by decide +kernel
theorem dX9_shortestEarning_70 : decode cX9_shortestEarning 70 = .ok (.aload_n 0, 1) := by decide +kernel
theorem dX9_shortestEarning_71 : decode cX9_shortestEarning 71 = .ok (.getfield 12, 3) := by decide +kernel
theorem dX9_shortestEarning_74 : decode cX9_shortestEarning 74 = .ok (.iload_n 1, 1) := by decide +kernel
theorem dX9_shortestEarning_75 : decode cX9_shortestEarning 75 = .ok (.iload 6, 2) := by decide +kernel
theorem dX9_shortestEarning_77 : decode cX9_shortestEarning 77 = .ok (.iload_n 3, 1) := by decide +kernel
theorem dX9_shortestEarning_78 : decode cX9_shortestEarning 78 = .ok (.invokevirtual 377, 3) := by decide +kernel
theorem dX9_shortestEarning_81 : decode cX9_shortestEarning 81 = .ok (.ifCond .eq 28, 3) := by decide +kernel
theorem dX9_shortestEarning_84 : decode cX9_shortestEarning 84 = .ok (.iload 5, 2) := by decide +kernel
theorem dX9_shortestEarning_86 : decode cX9_shortestEarning 86 = .ok (.aload_n 0, 1) := by decide +kernel
theorem dX9_shortestEarning_87 : decode cX9_shortestEarning 87 = .ok (.aload_n 0, 1) := by decide +kernel
theorem dX9_shortestEarning_88 : decode cX9_shortestEarning 88 = .ok (.getfield 12, 3) := by decide +kernel
theorem dX9_shortestEarning_91 : decode cX9_shortestEarning 91 = .ok (.iload_n 1, 1) := by decide +kernel
theorem dX9_shortestEarning_92 : decode cX9_shortestEarning 92 = .ok (.iload 6, 2) := by decide +kernel
theorem dX9_shortestEarning_94 : decode cX9_shortestEarning 94 = .ok (.invokevirtual 232, 3) := by decide +kernel
theorem dX9_shortestEarning_97 : decode cX9_shortestEarning 97 = .ok (.sipush 256, 3) := by decide +kernel
theorem dX9_shortestEarning_100 : decode cX9_shortestEarning 100 = .ok (.imul, 1) := by decide +kernel
theorem dX9_shortestEarning_101 : decode cX9_shortestEarning 101 = .ok (.iload 6, 2) := by decide +kernel
theorem dX9_shortestEarning_103 : decode cX9_shortestEarning 103 = .ok (.iadd, 1) := by decide +kernel
theorem dX9_shortestEarning_104 : decode cX9_shortestEarning 104 = .ok (.invokestatic 258, 3) := by decide +kernel
theorem dX9_shortestEarning_107 : decode cX9_shortestEarning 107 = .ok (.istore 5, 2) := by decide +kernel
theorem dX9_shortestEarning_109 : decode cX9_shortestEarning 109 = .ok (.iinc 6 1, 3) := by decide +kernel
theorem dX9_shortestEarning_112 : decode cX9_shortestEarning 112 = .ok (.goto (-68), 3) := by decide +kernel
theorem dX9_shortestEarning_115 : decode cX9_shortestEarning 115 = .ok (.iload 5, 2) := by decide +kernel
theorem dX9_shortestEarning_117 : decode cX9_shortestEarning 117 = .ok (.ireturn, 1) := by decide +kernel
theorem dX9_shortestShare_0 : decode cX9_shortestShare 0 = .ok (.aload_n 0, 1) := by decide +kernel
theorem dX9_shortestShare_1 : decode cX9_shortestShare 1 = .ok (.getfield 25, 3) := by decide +kernel
theorem dX9_shortestShare_4 : decode cX9_shortestShare 4 = .ok (.aload_n 0, 1) := by decide +kernel
theorem dX9_shortestShare_5 : decode cX9_shortestShare 5 = .ok (.getfield 12, 3) := by decide +kernel
theorem dX9_shortestShare_8 : decode cX9_shortestShare 8 = .ok (.iload_n 1, 1) := by decide +kernel
theorem dX9_shortestShare_9 : decode cX9_shortestShare 9 = .ok (.aload_n 0, 1) := by decide +kernel
theorem dX9_shortestShare_10 : decode cX9_shortestShare 10 = .ok (.getfield 12, 3) := by decide +kernel
theorem dX9_shortestShare_13 : decode cX9_shortestShare 13 = .ok (.getfield 74, 3) := by decide +kernel
theorem dX9_shortestShare_16 : decode cX9_shortestShare 16 = .ok (.iload_n 1, 1) := by decide +kernel
theorem dX9_shortestShare_17 : decode cX9_shortestShare 17 = .ok (.aaload, 1) := by decide +kernel
theorem dX9_shortestShare_18 : decode cX9_shortestShare 18 = .ok (.getfield 78, 3) := by decide +kernel
theorem dX9_shortestShare_21 : decode cX9_shortestShare 21 = .ok (.iload_n 3, 1) := by decide +kernel
theorem dX9_shortestShare_22 : decode cX9_shortestShare 22 = .ok (.invokevirtual 280, 3) := by decide +kernel
theorem dX9_shortestShare_25 : decode cX9_shortestShare 25 = .ok (.iconst 0, 1) := by decide +kernel
theorem dX9_shortestShare_26 : decode cX9_shortestShare 26 = .ok (.istore 4, 2) := by decide +kernel
theorem dX9_shortestShare_28 : decode cX9_shortestShare 28 = .ok (.iload 4, 2) := by decide +kernel
theorem dX9_shortestShare_30 : decode cX9_shortestShare 30 = .ok (.iload_n 3, 1) := by decide +kernel
theorem dX9_shortestShare_31 : decode cX9_shortestShare 31 = .ok (.if_icmp .gt 34, 3) := by decide +kernel
theorem dX9_shortestShare_34 : decode cX9_shortestShare 34 = .ok (.iload 4, 2) := by decide +kernel
theorem dX9_shortestShare_36 : decode cX9_shortestShare 36 = .ok (.iload_n 3, 1) := by decide +kernel
theorem dX9_shortestShare_37 : decode cX9_shortestShare 37 = .ok (.iconst (-1), 1) := by decide +kernel
theorem dX9_shortestShare_38 : decode cX9_shortestShare 38 = .ok (.ixor, 1) := by decide +kernel
theorem dX9_shortestShare_39 : decode cX9_shortestShare 39 = .ok (.iand, 1) := by decide +kernel
theorem dX9_shortestShare_40 : decode cX9_shortestShare 40 = .ok (.ifCond .ne 19, 3) := by decide +kernel
theorem dX9_shortestShare_43 : decode cX9_shortestShare 43 = .ok (.aload_n 0, 1) := by decide +kernel
theorem dX9_shortestShare_44 : decode cX9_shortestShare 44 = .ok (.getfield 29, 3) := by decide +kernel
theorem dX9_shortestShare_47 : decode cX9_shortestShare 47 = .ok (.iload 4, 2) := by decide +kernel
theorem dX9_shortestShare_49 : decode cX9_shortestShare 49 = .ok (.aload_n 0, 1) := by decide +kernel
theorem dX9_shortestShare_50 : decode cX9_shortestShare 50 = .ok (.getfield 25, 3) := by decide +kernel
theorem dX9_shortestShare_53 : decode cX9_shortestShare 53 = .ok (.iload 4, 2) := by decide +kernel
theorem dX9_shortestShare_55 : decode cX9_shortestShare 55 = .ok (.invokevirtual 263, 3) := by decide +kernel
theorem dX9_shortestShare_58 : decode cX9_shortestShare 58 = .ok (.iastore, 1) := by decide +kernel
theorem dX9_shortestShare_59 : decode cX9_shortestShare 59 = .ok (.iinc 4 1, 3) := by decide +kernel
theorem dX9_shortestShare_62 : decode cX9_shortestShare 62 = .ok (.goto (-34), 3) := by decide +kernel
theorem dX9_shortestShare_65 : decode cX9_shortestShare 65 = .ok (.aload_n 0, 1) := by decide +kernel
theorem dX9_shortestShare_66 : decode cX9_shortestShare 66 = .ok (.getfield 25, 3) := by decide +kernel
theorem dX9_shortestShare_69 : decode cX9_shortestShare 69 = .ok (.aload_n 0, 1) := by decide +kernel
theorem dX9_shortestShare_70 : decode cX9_shortestShare 70 = .ok (.getfield 12, 3) := by decide +kernel
theorem dX9_shortestShare_73 : decode cX9_shortestShare 73 = .ok (.iload_n 2, 1) := by decide +kernel
theorem dX9_shortestShare_74 : decode cX9_shortestShare 74 = .ok (.aload_n 0, 1) := by decide +kernel
theorem dX9_shortestShare_75 : decode cX9_shortestShare 75 = .ok (.getfield 12, 3) := by decide +kernel
theorem dX9_shortestShare_78 : decode cX9_shortestShare 78 = .ok (.getfield 74, 3) := by decide +kernel
theorem dX9_shortestShare_81 : decode cX9_shortestShare 81 = .ok (.iload_n 2, 1) := by decide +kernel
theorem dX9_shortestShare_82 : decode cX9_shortestShare 82 = .ok (.aaload, 1) := by decide +kernel
theorem dX9_shortestShare_83 : decode cX9_shortestShare 83 = .ok (.getfield 78, 3) := by decide +kernel
theorem dX9_shortestShare_86 : decode cX9_shortestShare 86 = .ok (.iload_n 3, 1) := by decide +kernel
theorem dX9_shortestShare_87 : decode cX9_shortestShare 87 = .ok (.invokevirtual 280, 3) := by decide +kernel
theorem dX9_shortestShare_90 : decode cX9_shortestShare 90 = .ok (.ldc_w 257, 3) := by decide +kernel
theorem dX9_shortestShare_93 : decode cX9_shortestShare 93 = .ok (.istore 4, 2) := by decide +kernel
theorem dX9_shortestShare_95 : decode cX9_shortestShare 95 = .ok (.iconst 0, 1) := by decide +kernel
theorem dX9_shortestShare_96 : decode cX9_shortestShare 96 = .ok (.istore 5, 2) := by decide +kernel
theorem dX9_shortestShare_98 : decode cX9_shortestShare 98 = .ok (.iload 5, 2) := by decide +kernel
theorem dX9_shortestShare_100 : decode cX9_shortestShare 100 = .ok (.iload_n 3, 1) := by decide +kernel
theorem dX9_shortestShare_101 : decode cX9_shortestShare 101 = .ok (.if_icmp .gt 53, 3) := by decide +kernel
theorem dX9_shortestShare_104 : decode cX9_shortestShare 104 = .ok (.iload 5, 2) := by decide +kernel
theorem dX9_shortestShare_106 : decode cX9_shortestShare 106 = .ok (.iload_n 3, 1) := by decide +kernel
theorem dX9_shortestShare_107 : decode cX9_shortestShare 107 = .ok (.iconst (-1), 1) := by decide +kernel
theorem dX9_shortestShare_108 : decode cX9_shortestShare 108 = .ok (.ixor, 1) := by decide +kernel
theorem dX9_shortestShare_109 : decode cX9_shortestShare 109 = .ok (.iand, 1) := by decide +kernel
theorem dX9_shortestShare_110 : decode cX9_shortestShare 110 = .ok (.ifCond .ne 38, 3) := by decide +kernel
theorem dX9_shortestShare_113 : decode cX9_shortestShare 113 = .ok (.iload 4, 2) := by decide +kernel
theorem dX9_shortestShare_115 : decode cX9_shortestShare 115 = .ok (.aload_n 0, 1) := by decide +kernel
theorem dX9_shortestShare_116 : decode cX9_shortestShare 116 = .ok (.getfield 29, 3) := by decide +kernel
theorem dX9_shortestShare_119 : decode cX9_shortestShare 119 = .ok (.iload 5, 2) := by decide +kernel
theorem dX9_shortestShare_121 : decode cX9_shortestShare 121 = .ok (.iaload, 1) := by decide +kernel
theorem dX9_shortestShare_122 : decode cX9_shortestShare 122 = .ok (.aload_n 0, 1) := by decide +kernel
theorem dX9_shortestShare_123 : decode cX9_shortestShare 123 = .ok (.getfield 25, 3) := by decide +kernel
theorem dX9_shortestShare_126 : decode cX9_shortestShare 126 = .ok (.iload_n 3, 1) := by decide +kernel
theorem dX9_shortestShare_127 : decode cX9_shortestShare 127 = .ok (.iload 5, 2) := by decide +kernel
theorem dX9_shortestShare_129 : decode cX9_shortestShare 129 = .ok (.iconst (-1), 1) := by decide +kernel
theorem dX9_shortestShare_130 : decode cX9_shortestShare 130 = .ok (.ixor, 1) := by decide +kernel
theorem dX9_shortestShare_131 : decode cX9_shortestShare 131 = .ok (.iand, 1) := by decide +kernel
theorem dX9_shortestShare_132 : decode cX9_shortestShare 132 = .ok (.invokevirtual 263, 3) := by decide +kernel
theorem dX9_shortestShare_135 : decode cX9_shortestShare 135 = .ok (.iadd, 1) := by decide +kernel
theorem dX9_shortestShare_136 : decode cX9_shortestShare 136 = .ok (.sipush 256, 3) := by decide +kernel
theorem dX9_shortestShare_139 : decode cX9_shortestShare 139 = .ok (.imul, 1) := by decide +kernel
theorem dX9_shortestShare_140 : decode cX9_shortestShare 140 = .ok (.iload 5, 2) := by decide +kernel
theorem dX9_shortestShare_142 : decode cX9_shortestShare 142 = .ok (.iadd, 1) := by decide +kernel
theorem dX9_shortestShare_143 : decode cX9_shortestShare 143 = .ok (.invokestatic 258, 3) := by decide +kernel
theorem dX9_shortestShare_146 : decode cX9_shortestShare 146 = .ok (.istore 4, 2) := by decide +kernel
theorem dX9_shortestShare_148 : decode cX9_shortestShare 148 = .ok (.iinc 5 1, 3) := by decide +kernel
theorem dX9_shortestShare_151 : decode cX9_shortestShare 151 = .ok (.goto (-53), 3) := by decide +kernel
theorem dX9_shortestShare_154 : decode cX9_shortestShare 154 = .ok (.iload 4, 2) := by decide +kernel
theorem dX9_shortestShare_156 : decode cX9_shortestShare 156 = .ok (.ireturn, 1) := by decide +kernel
theorem dX9_shortestByBridge_0 : decode cX9_shortestByBridge 0 = .ok (.aload_n 0, 1) := by decide +kernel
theorem dX9_shortestByBridge_1 : decode cX9_shortestByBridge 1 = .ok (.getfield 19, 3) := by decide +kernel
theorem dX9_shortestByBridge_4 : decode cX9_shortestByBridge 4 = .ok (.aload_n 0, 1) := by decide +kernel
theorem dX9_shortestByBridge_5 : decode cX9_shortestByBridge 5 = .ok (.getfield 12, 3) := by decide +kernel
theorem dX9_shortestByBridge_8 : decode cX9_shortestByBridge 8 = .ok (.invokevirtual 302, 3) := by decide +kernel
theorem dX9_shortestByBridge_11 : decode cX9_shortestByBridge 11 = .ok (.ldc_w 257, 3) := by decide +kernel
theorem dX9_shortestByBridge_14 : decode cX9_shortestByBridge 14 = .ok (.istore_n 3, 1) := by decide +kernel
theorem dX9_shortestByBridge_15 : decode cX9_shortestByBridge 15 = .ok (.iconst 0, 1) := by decide +kernel
theorem dX9_shortestByBridge_16 : decode cX9_shortestByBridge 16 = .ok (.istore 4, 2) := by decide +kernel
theorem dX9_shortestByBridge_18 : decode cX9_shortestByBridge 18 = .ok (.iload 4, 2) := by decide +kernel
theorem dX9_shortestByBridge_20 : decode cX9_shortestByBridge 20 = .ok (.bipush 7, 2) := by decide +kernel
theorem dX9_shortestByBridge_22 : decode cX9_shortestByBridge 22 = .ok (.if_icmp .ge 139, 3) := by decide +kernel
theorem dX9_shortestByBridge_25 : decode cX9_shortestByBridge 25 = .ok (.iload 4, 2) := by decide +kernel
theorem dX9_shortestByBridge_27 : decode cX9_shortestByBridge 27 = .ok (.iconst 1, 1) := by decide +kernel
theorem dX9_shortestByBridge_28 : decode cX9_shortestByBridge 28 = .ok (.iadd, 1) := by decide +kernel
theorem dX9_shortestByBridge_29 : decode cX9_shortestByBridge 29 = .ok (.istore 5, 2) := by decide +kernel
theorem dX9_shortestByBridge_31 : decode cX9_shortestByBridge 31 = .ok (.iload 5, 2) := by decide +kernel
theorem dX9_shortestByBridge_33 : decode cX9_shortestByBridge 33 = .ok (.bipush 7, 2) := by decide +kernel
theorem dX9_shortestByBridge_35 : decode cX9_shortestByBridge 35 = .ok (.if_icmp .ge 120, 3) := by decide +kernel
theorem dX9_shortestByBridge_38 : decode cX9_shortestByBridge 38 = .ok (.aload_n 0, 1) := by decide +kernel
theorem dX9_shortestByBridge_39 : decode cX9_shortestByBridge 39 = .ok (.getfield 12, 3) := by decide +kernel
theorem dX9_shortestByBridge_42 : decode cX9_shortestByBridge 42 = .ok (.getfield 112, 3) := by decide +kernel
theorem dX9_shortestByBridge_45 : decode cX9_shortestByBridge 45 = .ok (.iload 4, 2) := by decide +kernel
theorem dX9_shortestByBridge_47 : decode cX9_shortestByBridge 47 = .ok (.iload 5, 2) := by decide +kernel
theorem dX9_shortestByBridge_49 : decode cX9_shortestByBridge 49 = .ok (.invokevirtual 116, 3) := by decide +kernel
theorem dX9_shortestByBridge_52 : decode cX9_shortestByBridge 52 = .ok (.istore 6, 2) := by decide +kernel
theorem dX9_shortestByBridge_54 : decode cX9_shortestByBridge 54 = .ok (.iload 6, 2) := by decide +kernel
theorem dX9_shortestByBridge_56 : decode cX9_shortestByBridge 56 = .ok (.ifCond .le 93, 3) := by decide +kernel
theorem dX9_shortestByBridge_59 : decode cX9_shortestByBridge 59 = .ok (.aload_n 0, 1) := by decide +kernel
theorem dX9_shortestByBridge_60 : decode cX9_shortestByBridge 60 = .ok (.getfield 12, 3) := by decide +kernel
theorem dX9_shortestByBridge_63 : decode cX9_shortestByBridge 63 = .ok (.getfield 112, 3) := by decide +kernel
theorem dX9_shortestByBridge_66 : decode cX9_shortestByBridge 66 = .ok (.iload 4, 2) := by decide +kernel
theorem dX9_shortestByBridge_68 : decode cX9_shortestByBridge 68 = .ok (.iload 5, 2) := by decide +kernel
theorem dX9_shortestByBridge_70 : decode cX9_shortestByBridge 70 = .ok (.invokevirtual 129, 3) := by decide +kernel
theorem dX9_shortestByBridge_73 : decode cX9_shortestByBridge 73 = .ok (.iconst 1, 1) := by decide +kernel
theorem dX9_shortestByBridge_74 : decode cX9_shortestByBridge 74 = .ok (.if_icmp .ne 75, 3) := by decide +kernel
theorem dX9_shortestByBridge_77 : decode cX9_shortestByBridge 77 = .ok (.aload_n 0, 1) := by decide +kernel
theorem dX9_shortestByBridge_78 : decode cX9_shortestByBridge 78 = .ok (.getfield 19, 3) := by decide +kernel
theorem dX9_shortestByBridge_81 : decode cX9_shortestByBridge 81 = .ok (.getfield 112, 3) := by decide +kernel
theorem dX9_shortestByBridge_84 : decode cX9_shortestByBridge 84 = .ok (.iload 4, 2) := by decide +kernel
theorem dX9_shortestByBridge_86 : decode cX9_shortestByBridge 86 = .ok (.iload 5, 2) := by decide +kernel
theorem dX9_shortestByBridge_88 : decode cX9_shortestByBridge 88 = .ok (.iload 6, 2) := by decide +kernel
theorem dX9_shortestByBridge_90 : decode cX9_shortestByBridge 90 = .ok (.iconst 0, 1) := by decide +kernel
theorem dX9_shortestByBridge_91 : decode cX9_shortestByBridge 91 = .ok (.invokevirtual 122, 3) := by decide +kernel
theorem dX9_shortestByBridge_94 : decode cX9_shortestByBridge 94 = .ok (.aload_n 0, 1) := by decide +kernel
theorem dX9_shortestByBridge_95 : decode cX9_shortestByBridge 95 = .ok (.getfield 19, 3) := by decide +kernel
theorem dX9_shortestByBridge_98 : decode cX9_shortestByBridge 98 = .ok (.getfield 112, 3) := by decide +kernel
theorem dX9_shortestByBridge_101 : decode cX9_shortestByBridge 101 = .ok (.invokevirtual 126, 3) := by decide +kernel
theorem dX9_shortestByBridge_104 : decode cX9_shortestByBridge 104 = .ok (.iload_n 3, 1) := by decide +kernel
theorem dX9_shortestByBridge_105 : decode cX9_shortestByBridge 105 = .ok (.aload_n 0, 1) := by decide +kernel
theorem dX9_shortestByBridge_106 : decode cX9_shortestByBridge 106 = .ok (.aload_n 0, 1) := by decide +kernel
theorem dX9_shortestByBridge_107 : decode cX9_shortestByBridge 107 = .ok (.getfield 19, 3) := by decide +kernel
theorem dX9_shortestByBridge_110 : decode cX9_shortestByBridge 110 = .ok (.iload_n 1, 1) := by decide +kernel
theorem dX9_shortestByBridge_111 : decode cX9_shortestByBridge 111 = .ok (.iload_n 2, 1) := by decide +kernel
theorem dX9_shortestByBridge_112 : decode cX9_shortestByBridge 112 = .ok (.invokevirtual 232, 3) := by decide +kernel
theorem dX9_shortestByBridge_115 : decode cX9_shortestByBridge 115 = .ok (.sipush 256, 3) := by decide +kernel
theorem dX9_shortestByBridge_118 : decode cX9_shortestByBridge 118 = .ok (.imul, 1) := by decide +kernel
theorem dX9_shortestByBridge_119 : decode cX9_shortestByBridge 119 = .ok (.bipush 10, 2) := by decide +kernel
theorem dX9_shortestByBridge_121 : decode cX9_shortestByBridge 121 = .ok (.iload 4, 2) := by decide +kernel
theorem dX9_shortestByBridge_123 : decode cX9_shortestByBridge 123 = .ok (.imul, 1) := by decide +kernel
theorem dX9_shortestByBridge_124 : decode cX9_shortestByBridge 124 = .ok (.iadd, 1) := by decide +kernel
theorem dX9_shortestByBridge_125 : decode cX9_shortestByBridge 125 = .ok (.iload 5, 2) := by decide +kernel
theorem dX9_shortestByBridge_127 : decode cX9_shortestByBridge 127 = .ok (.iadd, 1) := by decide +kernel
theorem dX9_shortestByBridge_128 : decode cX9_shortestByBridge 128 = .ok (.invokestatic 258, 3) := by decide +kernel
theorem dX9_shortestByBridge_131 : decode cX9_shortestByBridge 131 = .ok (.istore_n 3, 1) := by decide +kernel
theorem dX9_shortestByBridge_132 : decode cX9_shortestByBridge 132 = .ok (.aload_n 0, 1) := by decide +kernel
theorem dX9_shortestByBridge_133 : decode cX9_shortestByBridge 133 = .ok (.getfield 19, 3) := by decide +kernel
theorem dX9_shortestByBridge_136 : decode cX9_shortestByBridge 136 = .ok (.getfield 112, 3) := by decide +kernel
theorem dX9_shortestByBridge_139 : decode cX9_shortestByBridge 139 = .ok (.iload 4, 2) := by decide +kernel
theorem dX9_shortestByBridge_141 : decode cX9_shortestByBridge 141 = .ok (.iload 5, 2) := by decide +kernel
theorem dX9_shortestByBridge_143 : decode cX9_shortestByBridge 143 = .ok (.iload 6, 2) := by decide +kernel
theorem dX9_shortestByBridge_145 : decode cX9_shortestByBridge 145 = .ok (.iconst 1, 1) := by decide +kernel
theorem dX9_shortestByBridge_146 : decode cX9_shortestByBridge 146 = .ok (.invokevirtual 122, 3) := by decide +kernel
theorem dX9_shortestByBridge_149 : decode cX9_shortestByBridge 149 = .ok (.iinc 5 1, 3) := by decide +kernel
theorem dX9_shortestByBridge_152 : decode cX9_shortestByBridge 152 = .ok (.goto (-121), 3) := by decide +kernel
theorem dX9_shortestByBridge_155 : decode cX9_shortestByBridge 155 = .ok (.iinc 4 1, 3) := by decide +kernel
theorem dX9_shortestByBridge_158 : decode cX9_shortestByBridge 158 = .ok (.goto (-140), 3) := by decide +kernel
theorem dX9_shortestByBridge_161 : decode cX9_shortestByBridge 161 = .ok (.iload_n 3, 1) := by decide +kernel
theorem dX9_shortestByBridge_162 : decode cX9_shortestByBridge 162 = .ok (.ireturn, 1) := by decide +kernel
theorem dX10_init_0 : decode cX10_init 0 = .ok (.aload_n 0, 1) := by decide +kernel
theorem dX10_init_1 : decode cX10_init 1 = .ok (.invokespecial 1, 3) := by decide +kernel
theorem dX10_init_4 : decode cX10_init 4 = .ok (.aload_n 0, 1) := by decide +kernel
theorem dX10_init_5 : decode cX10_init 5 = .ok (.sipush 138, 3) := by decide +kernel
theorem dX10_init_8 : decode cX10_init 8 = .ok (.newarray .int, 2) := by decide +kernel
theorem dX10_init_10 : decode cX10_init 10 = .ok (.putfield 9, 3) := by decide +kernel
theorem dX10_init_13 : decode cX10_init 13 = .ok (.aload_n 0, 1) := by decide +kernel
theorem dX10_init_14 : decode cX10_init 14 = .ok (.sipush 138, 3) := by decide +kernel
theorem dX10_init_17 : decode cX10_init 17 = .ok (.newarray .int, 2) := by decide +kernel
theorem dX10_init_19 : decode cX10_init 19 = .ok (.putfield 13, 3) := by decide +kernel
theorem dX10_init_22 : decode cX10_init 22 = .ok (.aload_n 0, 1) := by decide +kernel
theorem dX10_init_23 : decode cX10_init 23 = .ok (.sipush 138, 3) := by decide +kernel
theorem dX10_init_26 : decode cX10_init 26 = .ok (.newarray .int, 2) := by decide +kernel
theorem dX10_init_28 : decode cX10_init 28 = .ok (.putfield 16, 3) := by decide +kernel
theorem dX10_init_31 : decode cX10_init 31 = .ok (.aload_n 0, 1) := by decide +kernel
theorem dX10_init_32 : decode cX10_init 32 = .ok (.bipush 8, 2) := by decide +kernel
theorem dX10_init_34 : decode cX10_init 34 = .ok (.newarray .int, 2) := by decide +kernel
theorem dX10_init_36 : decode cX10_init 36 = .ok (.putfield 19, 3) := by decide +kernel
theorem dX10_init_39 : decode cX10_init 39 = .ok (.aload_n 0, 1) := by decide +kernel
theorem dX10_init_40 : decode cX10_init 40 = .ok (.bipush 49, 2) := by decide +kernel
theorem dX10_init_42 : decode cX10_init 42 = .ok (.newarray .int, 2) := by decide +kernel
theorem dX10_init_44 : decode cX10_init 44 = .ok (.putfield 22, 3) := by decide +kernel
theorem dX10_init_47 : decode cX10_init 47 = .ok (.aload_n 0, 1) := by decide +kernel
theorem dX10_init_48 : decode cX10_init 48 = .ok (.sipush 1701, 3) := by decide +kernel
theorem dX10_init_51 : decode cX10_init 51 = .ok (.newarray .int, 2) := by decide +kernel
theorem dX10_init_53 : decode cX10_init 53 = .ok (.putfield 25, 3) := by decide +kernel
theorem dX10_init_56 : decode cX10_init 56 = .ok (.aload_n 0, 1) := by decide +kernel
theorem dX10_init_57 : decode cX10_init 57 = .ok (.iconst 5, 1) := by decide +kernel
theorem dX10_init_58 : decode cX10_init 58 = .ok (.newarray .int, 2) := by decide +kernel
theorem dX10_init_60 : decode cX10_init 60 = .ok (.putfield 28, 3) := by decide +kernel
theorem dX10_init_63 : decode cX10_init 63 = .ok (.aload_n 0, 1) := by decide +kernel
theorem dX10_init_64 : decode cX10_init 64 = .ok (.bipush 6, 2) := by decide +kernel
theorem dX10_init_66 : decode cX10_init 66 = .ok (.newarray .int, 2) := by decide +kernel
theorem dX10_init_68 : decode cX10_init 68 = .ok (.dup, 1) := by decide +kernel
theorem dX10_init_69 : decode cX10_init 69 = .ok (.iconst 0, 1) := by decide +kernel
theorem dX10_init_70 : decode cX10_init 70 = .ok (.iconst 1, 1) := by decide +kernel
theorem dX10_init_71 : decode cX10_init 71 = .ok (.iastore, 1) := by decide +kernel
theorem dX10_init_72 : decode cX10_init 72 = .ok (.dup, 1) := by decide +kernel
theorem dX10_init_73 : decode cX10_init 73 = .ok (.iconst 1, 1) := by decide +kernel
theorem dX10_init_74 : decode cX10_init 74 = .ok (.iconst 3, 1) := by decide +kernel
theorem dX10_init_75 : decode cX10_init 75 = .ok (.iastore, 1) := by decide +kernel
theorem dX10_init_76 : decode cX10_init 76 = .ok (.dup, 1) := by decide +kernel
theorem dX10_init_77 : decode cX10_init 77 = .ok (.iconst 2, 1) := by decide +kernel
theorem dX10_init_78 : decode cX10_init 78 = .ok (.bipush 9, 2) := by decide +kernel
theorem dX10_init_80 : decode cX10_init 80 = .ok (.iastore, 1) := by decide +kernel
theorem dX10_init_81 : decode cX10_init 81 = .ok (.dup, 1) := by decide +kernel
theorem dX10_init_82 : decode cX10_init 82 = .ok (.iconst 3, 1) := by decide +kernel
theorem dX10_init_83 : decode cX10_init 83 = .ok (.bipush 27, 2) := by decide +kernel
theorem dX10_init_85 : decode cX10_init 85 = .ok (.iastore, 1) := by decide +kernel
theorem dX10_init_86 : decode cX10_init 86 = .ok (.dup, 1) := by decide +kernel
theorem dX10_init_87 : decode cX10_init 87 = .ok (.iconst 4, 1) := by decide +kernel
theorem dX10_init_88 : decode cX10_init 88 = .ok (.bipush 81, 2) := by decide +kernel
theorem dX10_init_90 : decode cX10_init 90 = .ok (.iastore, 1) := by decide +kernel
theorem dX10_init_91 : decode cX10_init 91 = .ok (.dup, 1) := by decide +kernel
theorem dX10_init_92 : decode cX10_init 92 = .ok (.iconst 5, 1) := by decide +kernel
theorem dX10_init_93 : decode cX10_init 93 = .ok (.sipush 243, 3) := by decide +kernel
theorem dX10_init_96 : decode cX10_init 96 = .ok (.iastore, 1) := by decide +kernel
theorem dX10_init_97 : decode cX10_init 97 = .ok (.putfield 31, 3) := by decide +kernel
theorem dX10_init_100 : decode cX10_init 100 = .ok (.aload_n 0, 1) := by decide +kernel
theorem dX10_init_101 : decode cX10_init 101 = .ok (.bipush 120, 2) := by decide +kernel
theorem dX10_init_103 : decode cX10_init 103 = .ok (.newarray .int, 2) := by decide +kernel
theorem dX10_init_105 : decode cX10_init 105 = .ok (.putfield 34, 3) := by decide +kernel
theorem dX10_init_108 : decode cX10_init 108 = .ok (.aload_n 0, 1) := by decide +kernel
theorem dX10_init_109 : decode cX10_init 109 = .ok (.bipush 7, 2) := by decide +kernel
theorem dX10_init_111 : decode cX10_init 111 = .ok (.anewarray 37, 3) := by decide +kernel
theorem dX10_init_114 : decode cX10_init 114 = .ok (.dup, 1) := by decide +kernel
theorem dX10_init_115 : decode cX10_init 115 = .ok (.iconst 0, 1) := by decide +kernel
theorem dX10_init_116 : decode cX10_init 116 = .ok (.ldc 39, 2) := by decide +kernel
theorem dX10_init_118 : decode cX10_init 118 = .ok (.aastore, 1) := by decide +kernel
theorem dX10_init_119 : decode cX10_init 119 = .ok (.dup, 1) := by decide +kernel
theorem dX10_init_120 : decode cX10_init 120 = .ok (.iconst 1, 1) := by decide +kernel
theorem dX10_init_121 : decode cX10_init 121 = .ok (.ldc 41, 2) := by decide +kernel
theorem dX10_init_123 : decode cX10_init 123 = .ok (.aastore, 1) := by decide +kernel
theorem dX10_init_124 : decode cX10_init 124 = .ok (.dup, 1) := by decide +kernel
theorem dX10_init_125 : decode cX10_init 125 = .ok (.iconst 2, 1) := by decide +kernel
theorem dX10_init_126 : decode cX10_init 126 = .ok (.ldc 43, 2) := by decide +kernel
theorem dX10_init_128 : decode cX10_init 128 = .ok (.aastore, 1) := by decide +kernel
theorem dX10_init_129 : decode cX10_init 129 = .ok (.dup, 1) := by decide +kernel
theorem dX10_init_130 : decode cX10_init 130 = .ok (.iconst 3, 1) := by decide +kernel
theorem dX10_init_131 : decode cX10_init 131 = .ok (.ldc 45, 2) := by decide +kernel
theorem dX10_init_133 : decode cX10_init 133 = .ok (.aastore, 1) := by decide +kernel
theorem dX10_init_134 : decode cX10_init 134 = .ok (.dup, 1) := by decide +kernel
theorem dX10_init_135 : decode cX10_init 135 = .ok (.iconst 4, 1) := by decide +kernel
theorem dX10_init_136 : decode cX10_init 136 = .ok (.ldc 47, 2) := by decide +kernel
theorem dX10_init_138 : decode cX10_init 138 = .ok (.aastore, 1) := by decide +kernel
theorem dX10_init_139 : decode cX10_init 139 = .ok (.dup, 1) := by decide +kernel
theorem dX10_init_140 : decode cX10_init 140 = .ok (.iconst 5, 1) := by decide +kernel
theorem dX10_init_141 : decode cX10_init 141 = .ok (.ldc 49, 2) := by decide +kernel
theorem dX10_init_143 : decode cX10_init 143 = .ok (.aastore, 1) := by decide +kernel
theorem dX10_init_144 : decode cX10_init 144 = .ok (.dup, 1) := by decide +kernel
theorem dX10_init_145 : decode cX10_init 145 = .ok (.bipush 6, 2) := by decide +kernel
theorem dX10_init_147 : decode cX10_init 147 = .ok (.ldc 51, 2) := by decide +kernel
theorem dX10_init_149 : decode cX10_init 149 = .ok (.aastore, 1) := by decide +kernel
theorem dX10_init_150 : decode cX10_init 150 = .ok (.putfield 53, 3) := by decide +kernel
theorem dX10_init_153 : decode cX10_init 153 = .ok (.aload_n 0, 1) := by decide +kernel
theorem dX10_init_154 : decode cX10_init 154 = .ok (.sipush 600, 3) := by decide +kernel
theorem dX10_init_157 : decode cX10_init 157 = .ok (.newarray .int, 2) := by decide +kernel
theorem dX10_init_159 : decode cX10_init 159 = .ok (.putfield 57, 3) := by decide +kernel
theorem dX10_init_162 : decode cX10_init 162 = .ok (.aload_n 0, 1) := by decide +kernel
theorem dX10_init_163 : decode cX10_init 163 = .ok (.iconst 4, 1) := by decide +kernel
theorem dX10_init_164 : decode cX10_init 164 = .ok (.newarray .int, 2) := by decide +kernel
theorem dX10_init_166 : decode cX10_init 166 = .ok (.putfield 60, 3) := by decide +kernel
theorem dX10_init_169 : decode cX10_init 169 = .ok (.aload_n 0, 1) := by decide +kernel
theorem dX10_init_170 : decode cX10_init 170 = .ok (.iconst 4, 1) := by decide +kernel
theorem dX10_init_171 : decode cX10_init 171 = .ok (.newarray .int, 2) := by decide +kernel
theorem dX10_init_173 : decode cX10_init 173 = .ok (.putfield 63, 3) := by decide +kernel
theorem dX10_init_176 : decode cX10_init 176 = .ok (.aload_n 0, 1) := by decide +kernel
theorem dX10_init_177 : decode cX10_init 177 = .ok (.sipush 160, 3) := by decide +kernel
theorem dX10_init_180 : decode cX10_init 180 = .ok (.newarray .int, 2) := by decide +kernel
theorem dX10_init_182 : decode cX10_init 182 = .ok (.putfield 66, 3) := by decide +kernel
theorem dX10_init_185 : decode cX10_init 185 = .ok (.aload_n 0, 1) := by decide +kernel
theorem dX10_init_186 : decode cX10_init 186 = .ok (.bipush 40, 2) := by decide +kernel
theorem dX10_init_188 : decode cX10_init 188 = .ok (.newarray .int, 2) := by decide +kernel
theorem dX10_init_190 : decode cX10_init 190 = .ok (.putfield 69, 3) := by decide +kernel
theorem dX10_init_193 : decode cX10_init 193 = .ok (.aload_n 0, 1) := by decide +kernel
theorem dX10_init_194 : decode cX10_init 194 = .ok (.getfield 9, 3) := by decide +kernel
theorem dX10_init_197 : decode cX10_init 197 = .ok (.bipush 45, 2) := by decide +kernel
theorem dX10_init_199 : decode cX10_init 199 = .ok (.iconst 1, 1) := by decide +kernel
theorem dX10_init_200 : decode cX10_init 200 = .ok (.iastore, 1) := by decide +kernel
theorem dX10_init_201 : decode cX10_init 201 = .ok (.iconst 0, 1) := by decide +kernel
theorem dX10_init_202 : decode cX10_init 202 = .ok (.istore_n 1, 1) := by decide +kernel
theorem dX10_init_203 : decode cX10_init 203 = .ok (.iload_n 1, 1) := by decide +kernel
theorem dX10_init_204 : decode cX10_init 204 = .ok (.bipush 10, 2) := by decide +kernel
theorem dX10_init_206 : decode cX10_init 206 = .ok (.if_icmp .ge 19, 3) := by decide +kernel
theorem dX10_init_209 : decode cX10_init 209 = .ok (.aload_n 0, 1) := by decide +kernel
theorem dX10_init_210 : decode cX10_init 210 = .ok (.getfield 9, 3) := by decide +kernel
theorem dX10_init_213 : decode cX10_init 213 = .ok (.bipush 46, 2) := by decide +kernel
theorem dX10_init_215 : decode cX10_init 215 = .ok (.iload_n 1, 1) := by decide +kernel
theorem dX10_init_216 : decode cX10_init 216 = .ok (.iadd, 1) := by decide +kernel
theorem dX10_init_217 : decode cX10_init 217 = .ok (.iconst (-1), 1) := by decide +kernel
theorem dX10_init_218 : decode cX10_init 218 = .ok (.iastore, 1) := by decide +kernel
theorem dX10_init_219 : decode cX10_init 219 = .ok (.iinc 1 1, 3) := by decide +kernel
theorem dX10_init_222 : decode cX10_init 222 = .ok (.goto (-19), 3) := by decide +kernel
theorem dX10_init_225 : decode cX10_init 225 = .ok (.return_, 1) := by decide +kernel
theorem dX10_finding_0 : decode cX10_finding 0 = .ok (.aload_n 0, 1) := by decide +kernel
theorem dX10_finding_1 : decode cX10_finding 1 = .ok (.getfield 19, 3) := by decide +kernel
theorem dX10_finding_4 : decode cX10_finding 4 = .ok (.ldc 72, 2) := by decide +kernel
theorem dX10_finding_6 : decode cX10_finding 6 = .ok (.iload_n 1, 1) := by decide +kernel
theorem dX10_finding_7 : decode cX10_finding 7 = .ok (.isub, 1) := by decide +kernel
theorem dX10_finding_8 : decode cX10_finding 8 = .ok (.iconst 1, 1) := by decide +kernel
theorem dX10_finding_9 : decode cX10_finding 9 = .ok (.iadd, 1) := by decide +kernel
theorem dX10_finding_10 : decode cX10_finding 10 = .ok (.dup2, 1) := by decide +kernel
theorem dX10_finding_11 : decode cX10_finding 11 = .ok (.iaload, 1) := by decide +kernel
theorem dX10_finding_12 : decode cX10_finding 12 = .ok (.iconst 1, 1) := by decide +kernel
theorem dX10_finding_13 : decode cX10_finding 13 = .ok (.iadd, 1) := by decide +kernel
theorem dX10_finding_14 : decode cX10_finding 14 = .ok (.iastore, 1) := by decide +kernel
theorem dX10_finding_15 : decode cX10_finding 15 = .ok (.aload_n 0, 1) := by decide +kernel
theorem dX10_finding_16 : decode cX10_finding 16 = .ok (.getfield 19, 3) := by decide +kernel
theorem dX10_finding_19 : decode cX10_finding 19 = .ok (.iconst 0, 1) := by decide +kernel
theorem dX10_finding_20 : decode cX10_finding 20 = .ok (.dup2, 1) := by decide +kernel
theorem dX10_finding_21 : decode cX10_finding 21 = .ok (.iaload, 1) := by decide +kernel
theorem dX10_finding_22 : decode cX10_finding 22 = .ok (.iconst 1, 1) := by decide +kernel
theorem dX10_finding_23 : decode cX10_finding 23 = .ok (.iadd, 1) := by decide +kernel
theorem dX10_finding_24 : decode cX10_finding 24 = .ok (.iastore, 1) := by decide +kernel
theorem dX10_finding_25 : decode cX10_finding 25 = .ok (.iload_n 1, 1) := by decide +kernel
theorem dX10_finding_26 : decode cX10_finding 26 = .ok (.ireturn, 1) := by decide +kernel
theorem dX10_within_0 : decode cX10_within 0 = .ok (.iload_n 0, 1) := by decide +kernel
theorem dX10_within_1 : decode cX10_within 1 = .ok (.iload_n 1, 1) := by decide +kernel
theorem dX10_within_2 : decode cX10_within 2 = .ok (.if_icmp .lt 12, 3) := by decide +kernel
theorem dX10_within_5 : decode cX10_within 5 = .ok (.iload_n 0, 1) := by decide +kernel
theorem dX10_within_6 : decode cX10_within 6 = .ok (.iload_n 2, 1) := by decide +kernel
theorem dX10_within_7 : decode cX10_within 7 = .ok (.if_icmp .gt 7, 3) := by decide +kernel
theorem dX10_within_10 : decode cX10_within 10 = .ok (.iconst 1, 1) := by decide +kernel
theorem dX10_within_11 : decode cX10_within 11 = .ok (.goto 4, 3) := by decide +kernel
theorem dX10_within_14 : decode cX10_within 14 = .ok (.iconst 0, 1) := by decide +kernel
theorem dX10_within_15 : decode cX10_within 15 = .ok (.ireturn, 1) := by decide +kernel
theorem dX10_become_0 : decode cX10_become 0 = .ok (.aload_n 0, 1) := by decide +kernel
theorem dX10_become_1 : decode cX10_become 1 = .ok (.getfield 9, 3) := by decide +kernel
theorem dX10_become_4 : decode cX10_become 4 = .ok (.iload_n 1, 1) := by decide +kernel
theorem dX10_become_5 : decode cX10_become 5 = .ok (.iaload, 1) := by decide +kernel
theorem dX10_become_6 : decode cX10_become 6 = .ok (.istore_n 3, 1) := by decide +kernel
theorem dX10_become_7 : decode cX10_become 7 = .ok (.aload_n 0, 1) := by decide +kernel
theorem dX10_become_8 : decode cX10_become 8 = .ok (.getfield 9, 3) := by decide +kernel
theorem dX10_become_11 : decode cX10_become 11 = .ok (.iload_n 1, 1) := by decide +kernel
theorem dX10_become_12 : decode cX10_become 12 = .ok (.iload_n 2, 1) := by decide +kernel
theorem dX10_become_13 : decode cX10_become 13 = .ok (.iastore, 1) := by decide +kernel
theorem dX10_become_14 : decode cX10_become 14 = .ok (.iload_n 3, 1) := by decide +kernel
theorem dX10_become_15 : decode cX10_become 15 = .ok (.ireturn, 1) := by decide +kernel
theorem dX10_copyRow_0 : decode cX10_copyRow 0 = .ok (.iconst 0, 1) := by decide +kernel
theorem dX10_copyRow_1 : decode cX10_copyRow 1 = .ok (.istore_n 2, 1) := by decide +kernel
theorem dX10_copyRow_2 : decode cX10_copyRow 2 = .ok (.iload_n 2, 1) := by decide +kernel
theorem dX10_copyRow_3 : decode cX10_copyRow 3 = .ok (.sipush 138, 3) := by decide +kernel
theorem dX10_copyRow_6 : decode cX10_copyRow 6 = .ok (.if_icmp .ge 15, 3) := by decide +kernel
theorem dX10_copyRow_9 : decode cX10_copyRow 9 = .ok (.aload_n 1, 1) := by decide +kernel
theorem dX10_copyRow_10 : decode cX10_copyRow 10 = .ok (.iload_n 2, 1) := by decide +kernel
theorem dX10_copyRow_11 : decode cX10_copyRow 11 = .ok (.aload_n 0, 1) := by decide +kernel
theorem dX10_copyRow_12 : decode cX10_copyRow 12 = .ok (.iload_n 2, 1) := by decide +kernel
theorem dX10_copyRow_13 : decode cX10_copyRow 13 = .ok (.iaload, 1) := by decide +kernel
theorem dX10_copyRow_14 : decode cX10_copyRow 14 = .ok (.iastore, 1) := by decide +kernel
theorem dX10_copyRow_15 : decode cX10_copyRow 15 = .ok (.iinc 2 1, 3) := by decide +kernel
theorem dX10_copyRow_18 : decode cX10_copyRow 18 = .ok (.goto (-16), 3) := by decide +kernel
theorem dX10_copyRow_21 : decode cX10_copyRow 21 = .ok (.return_, 1) := by decide +kernel
theorem dX10_putBack_0 : decode cX10_putBack 0 = .ok (.aload_n 0, 1) := by decide +kernel
theorem dX10_putBack_1 : decode cX10_putBack 1 = .ok (.getfield 16, 3) := by decide +kernel
theorem dX10_putBack_4 : decode cX10_putBack 4 = .ok (.aload_n 0, 1) := by decide +kernel
theorem dX10_putBack_5 : decode cX10_putBack 5 = .ok (.getfield 9, 3) := by decide +kernel
theorem dX10_putBack_8 : decode cX10_putBack 8 = .ok (.invokestatic 73, 3) := by decide +kernel
theorem dX10_putBack_11 : decode cX10_putBack 11 = .ok (.iload_n 1, 1) := by decide +kernel
theorem dX10_putBack_12 : decode cX10_putBack 12 = .ok (.ireturn, 1) := by decide +kernel
theorem dX10_has_0 : decode cX10_has 0 = .ok (.iload_n 0, 1) := by decide +kernel
theorem dX10_has_1 : decode cX10_has 1 = .ok (.iload_n 1, 1) := by decide +kernel
theorem dX10_has_2 : decode cX10_has 2 = .ok (.ishr, 1) := by decide +kernel
theorem dX10_has_3 : decode cX10_has 3 = .ok (.iconst 1, 1) := by decide +kernel
theorem dX10_has_4 : decode cX10_has 4 = .ok (.iand, 1) := by decide +kernel
theorem dX10_has_5 : decode cX10_has 5 = .ok (.iconst 1, 1) := by decide +kernel
theorem dX10_has_6 : decode cX10_has 6 = .ok (.if_icmp .ne 7, 3) := by decide +kernel
theorem dX10_has_9 : decode cX10_has 9 = .ok (.iconst 1, 1) := by decide +kernel
theorem dX10_has_10 : decode cX10_has 10 = .ok (.goto 4, 3) := by decide +kernel
theorem dX10_has_13 : decode cX10_has 13 = .ok (.iconst 0, 1) := by decide +kernel
theorem dX10_has_14 : decode cX10_has 14 = .ok (.ireturn, 1) := by decide +kernel
theorem dX10_bits_0 : decode cX10_bits 0 = .ok (.iconst 0, 1) := by decide +kernel
theorem dX10_bits_1 : decode cX10_bits 1 = .ok (.istore_n 1, 1) := by decide +kernel
theorem dX10_bits_2 : decode cX10_bits 2 = .ok (.iload_n 0, 1) := by decide +kernel
theorem dX10_bits_3 : decode cX10_bits 3 = .ok (.istore_n 2, 1) := by decide +kernel
theorem dX10_bits_4 : decode cX10_bits 4 = .ok (.iload_n 2, 1) := by decide +kernel
theorem dX10_bits_5 : decode cX10_bits 5 = .ok (.ifCond .eq 15, 3) := by decide +kernel
theorem dX10_bits_8 : decode cX10_bits 8 = .ok (.iinc 1 1, 3) := by decide +kernel
theorem dX10_bits_11 : decode cX10_bits 11 = .ok (.iload_n 2, 1) := by decide +kernel
theorem dX10_bits_12 : decode cX10_bits 12 = .ok (.iload_n 2, 1) := by decide +kernel
theorem dX10_bits_13 : decode cX10_bits 13 = .ok (.iconst 1, 1) := by decide +kernel
theorem dX10_bits_14 : decode cX10_bits 14 = .ok (.isub, 1) := by decide +kernel
theorem dX10_bits_15 : decode cX10_bits 15 = .ok (.iand, 1) := by decide +kernel
theorem dX10_bits_16 : decode cX10_bits 16 = .ok (.istore_n 2, 1) := by decide +kernel
theorem dX10_bits_17 : decode cX10_bits 17 = .ok (.goto (-13), 3) := by decide +kernel
theorem dX10_bits_20 : decode cX10_bits 20 = .ok (.iload_n 1, 1) := by decide +kernel
theorem dX10_bits_21 : decode cX10_bits 21 = .ok (.ireturn, 1) := by decide +kernel
theorem dX10_isPlace_0 : decode cX10_isPlace 0 = .ok (.iload_n 0, 1) := by decide +kernel
theorem dX10_isPlace_1 : decode cX10_isPlace 1 = .ok (.iconst 0, 1) := by decide +kernel
theorem dX10_isPlace_2 : decode cX10_isPlace 2 = .ok (.bipush 6, 2) := by decide +kernel
theorem dX10_isPlace_4 : decode cX10_isPlace 4 = .ok (.invokestatic 77, 3) := by decide +kernel
theorem dX10_isPlace_7 : decode cX10_isPlace 7 = .ok (.ireturn, 1) := by decide +kernel
theorem dX10_isCarrier_0 : decode cX10_isCarrier 0 = .ok (.iload_n 1, 1) := by decide +kernel
theorem dX10_isCarrier_1 : decode cX10_isCarrier 1 = .ok (.iconst 0, 1) := by decide +kernel
theorem dX10_isCarrier_2 : decode cX10_isCarrier 2 = .ok (.aload_n 0, 1) := by decide +kernel
theorem dX10_isCarrier_3 : decode cX10_isCarrier 3 = .ok (.getfield 9, 3) := by decide +kernel
theorem dX10_isCarrier_6 : decode cX10_isCarrier 6 = .ok (.bipush 42, 2) := by decide +kernel
theorem dX10_isCarrier_8 : decode cX10_isCarrier 8 = .ok (.iaload, 1) := by decide +kernel
theorem dX10_isCarrier_9 : decode cX10_isCarrier 9 = .ok (.iconst 1, 1) := by decide +kernel
theorem dX10_isCarrier_10 : decode cX10_isCarrier 10 = .ok (.isub, 1) := by decide +kernel
theorem dX10_isCarrier_11 : decode cX10_isCarrier 11 = .ok (.invokestatic 77, 3) := by decide +kernel
theorem dX10_isCarrier_14 : decode cX10_isCarrier 14 = .ok (.ireturn, 1) := by decide +kernel
theorem dX10_isErrand_0 : decode cX10_isErrand 0 = .ok (.iload_n 1, 1) := by decide +kernel
theorem dX10_isErrand_1 : decode cX10_isErrand 1 = .ok (.iconst 0, 1) := by decide +kernel
theorem dX10_isErrand_2 : decode cX10_isErrand 2 = .ok (.aload_n 0, 1) := by decide +kernel
theorem dX10_isErrand_3 : decode cX10_isErrand 3 = .ok (.getfield 9, 3) := by decide +kernel
theorem dX10_isErrand_6 : decode cX10_isErrand 6 = .ok (.bipush 43, 2) := by decide +kernel
theorem dX10_isErrand_8 : decode cX10_isErrand 8 = .ok (.iaload, 1) := by decide +kernel
theorem dX10_isErrand_9 : decode cX10_isErrand 9 = .ok (.iconst 1, 1) := by decide +kernel
theorem dX10_isErrand_10 : decode cX10_isErrand 10 = .ok (.isub, 1) := by decide +kernel
theorem dX10_isErrand_11 : decode cX10_isErrand 11 = .ok (.invokestatic 77, 3) := by decide +kernel
theorem dX10_isErrand_14 : decode cX10_isErrand 14 = .ok (.ireturn, 1) := by decide +kernel
theorem dX10_isWare_0 : decode cX10_isWare 0 = .ok (.iload_n 1, 1) := by decide +kernel
theorem dX10_isWare_1 : decode cX10_isWare 1 = .ok (.iconst 0, 1) := by decide +kernel
theorem dX10_isWare_2 : decode cX10_isWare 2 = .ok (.aload_n 0, 1) := by decide +kernel
theorem dX10_isWare_3 : decode cX10_isWare 3 = .ok (.getfield 9, 3) := by decide +kernel
theorem dX10_isWare_6 : decode cX10_isWare 6 = .ok (.bipush 44, 2) := by decide +kernel
theorem dX10_isWare_8 : decode cX10_isWare 8 = .ok (.iaload, 1) := by decide +kernel
theorem dX10_isWare_9 : decode cX10_isWare 9 = .ok (.iconst 1, 1) := by decide +kernel
theorem dX10_isWare_10 : decode cX10_isWare 10 = .ok (.isub, 1) := by decide +kernel
theorem dX10_isWare_11 : decode cX10_isWare 11 = .ok (.invokestatic 77, 3) := by decide +kernel
theorem dX10_isWare_14 : decode cX10_isWare 14 = .ok (.ireturn, 1) := by decide +kernel
theorem dX10_isKind_0 : decode cX10_isKind 0 = .ok (.iload_n 0, 1) := by decide +kernel
theorem dX10_isKind_1 : decode cX10_isKind 1 = .ok (.iconst 0, 1) := by decide +kernel
theorem dX10_isKind_2 : decode cX10_isKind 2 = .ok (.bipush 6, 2) := by decide +kernel
theorem dX10_isKind_4 : decode cX10_isKind 4 = .ok (.invokestatic 77, 3) := by decide +kernel
theorem dX10_isKind_7 : decode cX10_isKind 7 = .ok (.ireturn, 1) := by decide +kernel
theorem dX10_cAt_0 : decode cX10_cAt 0 = .ok (.bipush 56, 2) := by decide +kernel
theorem dX10_cAt_2 : decode cX10_cAt 2 = .ok (.iconst 5, 1) := by decide +kernel
theorem dX10_cAt_3 : decode cX10_cAt 3 = .ok (.iload_n 0, 1) := by decide +kernel
theorem dX10_cAt_4 : decode cX10_cAt 4 = .ok (.imul, 1) := by decide +kernel
theorem dX10_cAt_5 : decode cX10_cAt 5 = .ok (.iadd, 1) := by decide +kernel
theorem dX10_cAt_6 : decode cX10_cAt 6 = .ok (.iload_n 1, 1) := by decide +kernel
theorem dX10_cAt_7 : decode cX10_cAt 7 = .ok (.iadd, 1) := by decide +kernel
theorem dX10_cAt_8 : decode cX10_cAt 8 = .ok (.ireturn, 1) := by decide +kernel
theorem dX10_cIs_0 : decode cX10_cIs 0 = .ok (.aload_n 0, 1) := by decide +kernel
theorem dX10_cIs_1 : decode cX10_cIs 1 = .ok (.getfield 9, 3) := by decide +kernel
theorem dX10_cIs_4 : decode cX10_cIs 4 = .ok (.iload_n 1, 1) := by decide +kernel
theorem dX10_cIs_5 : decode cX10_cIs 5 = .ok (.iload_n 2, 1) := by decide +kernel
theorem dX10_cIs_6 : decode cX10_cIs 6 = .ok (.invokestatic 81, 3) := by decide +kernel
theorem dX10_cIs_9 : decode cX10_cIs 9 = .ok (.iaload, 1) := by decide +kernel
theorem dX10_cIs_10 : decode cX10_cIs 10 = .ok (.ireturn, 1) := by decide +kernel
theorem dX10_eAt_0 : decode cX10_eAt 0 = .ok (.bipush 86, 2) := by decide +kernel
theorem dX10_eAt_2 : decode cX10_eAt 2 = .ok (.iconst 5, 1) := by decide +kernel
theorem dX10_eAt_3 : decode cX10_eAt 3 = .ok (.iload_n 0, 1) := by decide +kernel
theorem dX10_eAt_4 : decode cX10_eAt 4 = .ok (.imul, 1) := by decide +kernel
theorem dX10_eAt_5 : decode cX10_eAt 5 = .ok (.iadd, 1) := by decide +kernel
theorem dX10_eAt_6 : decode cX10_eAt 6 = .ok (.iload_n 1, 1) := by decide +kernel
theorem dX10_eAt_7 : decode cX10_eAt 7 = .ok (.iadd, 1) := by decide +kernel
theorem dX10_eAt_8 : decode cX10_eAt 8 = .ok (.ireturn, 1) := by decide +kernel
theorem dX10_eIs_0 : decode cX10_eIs 0 = .ok (.aload_n 0, 1) := by decide +kernel
theorem dX10_eIs_1 : decode cX10_eIs 1 = .ok (.getfield 9, 3) := by decide +kernel
theorem dX10_eIs_4 : decode cX10_eIs 4 = .ok (.iload_n 1, 1) := by decide +kernel
theorem dX10_eIs_5 : decode cX10_eIs 5 = .ok (.iload_n 2, 1) := by decide +kernel
theorem dX10_eIs_6 : decode cX10_eIs 6 = .ok (.invokestatic 85, 3) := by decide +kernel
theorem dX10_eIs_9 : decode cX10_eIs 9 = .ok (.iaload, 1) := by decide +kernel
theorem dX10_eIs_10 : decode cX10_eIs 10 = .ok (.ireturn, 1) := by decide +kernel
theorem dX10_wAt_0 : decode cX10_wAt 0 = .ok (.bipush 126, 2) := by decide +kernel
theorem dX10_wAt_2 : decode cX10_wAt 2 = .ok (.iconst 2, 1) := by decide +kernel
theorem dX10_wAt_3 : decode cX10_wAt 3 = .ok (.iload_n 0, 1) := by decide +kernel
theorem dX10_wAt_4 : decode cX10_wAt 4 = .ok (.imul, 1) := by decide +kernel
theorem dX10_wAt_5 : decode cX10_wAt 5 = .ok (.iadd, 1) := by decide +kernel
theorem dX10_wAt_6 : decode cX10_wAt 6 = .ok (.iload_n 1, 1) := by decide +kernel
theorem dX10_wAt_7 : decode cX10_wAt 7 = .ok (.iadd, 1) := by decide +kernel
theorem dX10_wAt_8 : decode cX10_wAt 8 = .ok (.ireturn, 1) := by decide +kernel
theorem dX10_newCarrier_0 : decode cX10_newCarrier 0 = .ok (.aload_n 0, 1) := by decide +kernel
theorem dX10_newCarrier_1 : decode cX10_newCarrier 1 = .ok (.getfield 9, 3) := by decide +kernel
theorem dX10_newCarrier_4 : decode cX10_newCarrier 4 = .ok (.bipush 42, 2) := by decide +kernel
theorem dX10_newCarrier_6 : decode cX10_newCarrier 6 = .ok (.iaload, 1) := by decide +kernel
theorem dX10_newCarrier_7 : decode cX10_newCarrier 7 = .ok (.istore 4, 2) := by decide +kernel
theorem dX10_newCarrier_9 : decode cX10_newCarrier 9 = .ok (.aload_n 0, 1) := by decide +kernel
theorem dX10_newCarrier_10 : decode cX10_newCarrier 10 = .ok (.getfield 9, 3) := by decide +kernel
theorem dX10_newCarrier_13 : decode cX10_newCarrier 13 = .ok (.iload 4, 2) := by decide +kernel
theorem dX10_newCarrier_15 : decode cX10_newCarrier 15 = .ok (.iconst 0, 1) := by decide +kernel
theorem dX10_newCarrier_16 : decode cX10_newCarrier 16 = .ok (.invokestatic 81, 3) := by decide +kernel
theorem dX10_newCarrier_19 : decode cX10_newCarrier 19 = .ok (.iload_n 1, 1) := by decide +kernel
theorem dX10_newCarrier_20 : decode cX10_newCarrier 20 = .ok (.iastore, 1) := by decide +kernel
theorem dX10_newCarrier_21 : decode cX10_newCarrier 21 = .ok (.aload_n 0, 1) := by decide +kernel
theorem dX10_newCarrier_22 : decode cX10_newCarrier 22 = .ok (.getfield 9, 3) := by decide +kernel
theorem dX10_newCarrier_25 : decode cX10_newCarrier 25 = .ok (.iload 4, 2) := by decide +kernel
theorem dX10_newCarrier_27 : decode cX10_newCarrier 27 = .ok (.iconst 1, 1) := by decide +kernel
theorem dX10_newCarrier_28 : decode cX10_newCarrier 28 = .ok (.invokestatic 81, 3) := by decide +kernel
theorem dX10_newCarrier_31 : decode cX10_newCarrier 31 = .ok (.iload_n 2, 1) := by decide +kernel
theorem dX10_newCarrier_32 : decode cX10_newCarrier 32 = .ok (.iastore, 1) := by decide +kernel
theorem dX10_newCarrier_33 : decode cX10_newCarrier 33 = .ok (.aload_n 0, 1) := by decide +kernel
theorem dX10_newCarrier_34 : decode cX10_newCarrier 34 = .ok (.getfield 9, 3) := by decide +kernel
theorem dX10_newCarrier_37 : decode cX10_newCarrier 37 = .ok (.iload 4, 2) := by decide +kernel
theorem dX10_newCarrier_39 : decode cX10_newCarrier 39 = .ok (.iconst 2, 1) := by decide +kernel
theorem dX10_newCarrier_40 : decode cX10_newCarrier 40 = .ok (.invokestatic 81, 3) := by decide +kernel
theorem dX10_newCarrier_43 : decode cX10_newCarrier 43 = .ok (.iload_n 3, 1) := by decide +kernel
theorem dX10_newCarrier_44 : decode cX10_newCarrier 44 = .ok (.iastore, 1) := by decide +kernel
theorem dX10_newCarrier_45 : decode cX10_newCarrier 45 = .ok (.aload_n 0, 1) := by decide +kernel
theorem dX10_newCarrier_46 : decode cX10_newCarrier 46 = .ok (.getfield 9, 3) := by decide +kernel
theorem dX10_newCarrier_49 : decode cX10_newCarrier 49 = .ok (.iload 4, 2) := by decide +kernel
theorem dX10_newCarrier_51 : decode cX10_newCarrier 51 = .ok (.iconst 3, 1) := by decide +kernel
theorem dX10_newCarrier_52 : decode cX10_newCarrier 52 = .ok (.invokestatic 81, 3) := by decide +kernel
theorem dX10_newCarrier_55 : decode cX10_newCarrier 55 = .ok (.iconst 0, 1) := by decide +kernel
theorem dX10_newCarrier_56 : decode cX10_newCarrier 56 = .ok (.iastore, 1) := by decide +kernel
theorem dX10_newCarrier_57 : decode cX10_newCarrier 57 = .ok (.aload_n 0, 1) := by decide +kernel
theorem dX10_newCarrier_58 : decode cX10_newCarrier 58 = .ok (.getfield 9, 3) := by decide +kernel
theorem dX10_newCarrier_61 : decode cX10_newCarrier 61 = .ok (.iload 4, 2) := by decide +kernel
theorem dX10_newCarrier_63 : decode cX10_newCarrier 63 = .ok (.iconst 4, 1) := by decide +kernel
theorem dX10_newCarrier_64 : decode cX10_newCarrier 64 = .ok (.invokestatic 81, 3) := by decide +kernel
theorem dX10_newCarrier_67 : decode cX10_newCarrier 67 = .ok (.iconst 0, 1) := by decide +kernel
theorem dX10_newCarrier_68 : decode cX10_newCarrier 68 = .ok (.iastore, 1) := by decide +kernel
theorem dX10_newCarrier_69 : decode cX10_newCarrier 69 = .ok (.aload_n 0, 1) := by decide +kernel
theorem dX10_newCarrier_70 : decode cX10_newCarrier 70 = .ok (.getfield 9, 3) := by decide +kernel
theorem dX10_newCarrier_73 : decode cX10_newCarrier 73 = .ok (.bipush 42, 2) := by decide +kernel
theorem dX10_newCarrier_75 : decode cX10_newCarrier 75 = .ok (.dup2, 1) := by decide +kernel
theorem dX10_newCarrier_76 : decode cX10_newCarrier 76 = .ok (.iaload, 1) := by decide +kernel
theorem dX10_newCarrier_77 : decode cX10_newCarrier 77 = .ok (.iconst 1, 1) := by decide +kernel
theorem dX10_newCarrier_78 : decode cX10_newCarrier 78 = .ok (.iadd, 1) := by decide +kernel
theorem dX10_newCarrier_79 : decode cX10_newCarrier 79 = .ok (.iastore, 1) := by decide +kernel
theorem dX10_newCarrier_80 : decode cX10_newCarrier 80 = .ok (.iload 4, 2) := by decide +kernel
theorem dX10_newCarrier_82 : decode cX10_newCarrier 82 = .ok (.ireturn, 1) := by decide +kernel
theorem dX10_carrier_0 : decode cX10_carrier 0 = .ok (.iload_n 1, 1) := by decide +kernel
theorem dX10_carrier_1 : decode cX10_carrier 1 = .ok (.invokestatic 88, 3) := by decide +kernel
theorem dX10_carrier_4 : decode cX10_carrier 4 = .ok (.ifCond .ne 10, 3) := by decide +kernel
theorem dX10_carrier_7 : decode cX10_carrier 7 = .ok (.aload_n 0, 1) := by decide +kernel
theorem dX10_carrier_8 : decode cX10_carrier 8 = .ok (.ldc 72, 2) := by decide +kernel
theorem dX10_carrier_10 : decode cX10_carrier 10 = .ok (.invokevirtual 92, 3) := by decide +kernel
theorem dX10_carrier_13 : decode cX10_carrier 13 = .ok (.ireturn, 1) := by decide +kernel
theorem dX10_carrier_14 : decode cX10_carrier 14 = .ok (.aload_n 0, 1) := by decide +kernel
theorem dX10_carrier_15 : decode cX10_carrier 15 = .ok (.getfield 9, 3) := by decide +kernel
theorem dX10_carrier_18 : decode cX10_carrier 18 = .ok (.bipush 42, 2) := by decide +kernel
theorem dX10_carrier_20 : decode cX10_carrier 20 = .ok (.iaload, 1) := by decide +kernel
theorem dX10_carrier_21 : decode cX10_carrier 21 = .ok (.bipush 6, 2) := by decide +kernel
theorem dX10_carrier_23 : decode cX10_carrier 23 = .ok (.if_icmp .ne 12, 3) := by decide +kernel
theorem dX10_carrier_26 : decode cX10_carrier 26 = .ok (.aload_n 0, 1) := by decide +kernel
theorem dX10_carrier_27 : decode cX10_carrier 27 = .ok (.ldc 96, 2) := by decide +kernel
theorem dX10_carrier_29 : decode cX10_carrier 29 = .ok (.invokevirtual 92, 3) := by decide +kernel
theorem dX10_carrier_32 : decode cX10_carrier 32 = .ok (.goto 11, 3) := by decide +kernel
theorem dX10_carrier_35 : decode cX10_carrier 35 = .ok (.aload_n 0, 1) := by decide +kernel
theorem dX10_carrier_36 : decode cX10_carrier 36 = .ok (.iload_n 1, 1) := by decide +kernel
theorem dX10_carrier_37 : decode cX10_carrier 37 = .ok (.iconst 0, 1) := by decide +kernel
theorem dX10_carrier_38 : decode cX10_carrier 38 = .ok (.bipush 20, 2) := by decide +kernel
theorem dX10_carrier_40 : decode cX10_carrier 40 = .ok (.invokevirtual 97, 3) := by decide +kernel
theorem dX10_carrier_43 : decode cX10_carrier 43 = .ok (.ireturn, 1) := by decide +kernel
theorem dX10_above_0 : decode cX10_above 0 = .ok (.iload_n 0, 1) := by decide +kernel
theorem dX10_above_1 : decode cX10_above 1 = .ok (.ifCond .ne 7, 3) := by decide +kernel
theorem dX10_above_4 : decode cX10_above 4 = .ok (.iconst (-1), 1) := by decide +kernel
theorem dX10_above_5 : decode cX10_above 5 = .ok (.goto 32, 3) := by decide +kernel
theorem dX10_above_8 : decode cX10_above 8 = .ok (.iload_n 0, 1) := by decide +kernel
theorem dX10_above_9 : decode cX10_above 9 = .ok (.iconst 3, 1) := by decide +kernel
theorem dX10_above_10 : decode cX10_above 10 = .ok (.if_icmp .ne 7, 3) := by decide +kernel
theorem dX10_above_13 : decode cX10_above 13 = .ok (.iconst 1, 1) := by decide +kernel
theorem dX10_above_14 : decode cX10_above 14 = .ok (.goto 23, 3) := by decide +kernel
theorem dX10_above_17 : decode cX10_above 17 = .ok (.iload_n 0, 1) := by decide +kernel
theorem dX10_above_18 : decode cX10_above 18 = .ok (.iconst 4, 1) := by decide +kernel
theorem dX10_above_19 : decode cX10_above 19 = .ok (.if_icmp .ne 7, 3) := by decide +kernel
theorem dX10_above_22 : decode cX10_above 22 = .ok (.iconst 2, 1) := by decide +kernel
theorem dX10_above_23 : decode cX10_above 23 = .ok (.goto 14, 3) := by decide +kernel
theorem dX10_above_26 : decode cX10_above 26 = .ok (.iload_n 0, 1) := by decide +kernel
theorem dX10_above_27 : decode cX10_above 27 = .ok (.bipush 6, 2) := by decide +kernel
theorem dX10_above_29 : decode cX10_above 29 = .ok (.if_icmp .ne 7, 3) := by decide +kernel
theorem dX10_above_32 : decode cX10_above 32 = .ok (.iconst 5, 1) := by decide +kernel
theorem dX10_above_33 : decode cX10_above 33 = .ok (.goto 4, 3) := by decide +kernel
theorem dX10_above_36 : decode cX10_above 36 = .ok (.iconst 0, 1) := by decide +kernel
theorem dX10_above_37 : decode cX10_above 37 = .ok (.ireturn, 1) := by decide +kernel
theorem dX10_isUnder_0 : decode cX10_isUnder 0 = .ok (.iload_n 0, 1) := by decide +kernel
theorem dX10_isUnder_1 : decode cX10_isUnder 1 = .ok (.istore_n 2, 1) := by decide +kernel
theorem dX10_isUnder_2 : decode cX10_isUnder 2 = .ok (.iload_n 2, 1) := by decide +kernel
theorem dX10_isUnder_3 : decode cX10_isUnder 3 = .ok (.ifCond .lt 16, 3) := by decide +kernel
theorem dX10_isUnder_6 : decode cX10_isUnder 6 = .ok (.iload_n 2, 1) := by decide +kernel
theorem dX10_isUnder_7 : decode cX10_isUnder 7 = .ok (.iload_n 1, 1) := by decide +kernel
theorem dX10_isUnder_8 : decode cX10_isUnder 8 = .ok (.if_icmp .eq 11, 3) := by decide +kernel
theorem dX10_isUnder_11 : decode cX10_isUnder 11 = .ok (.iload_n 2, 1) := by decide +kernel
theorem dX10_isUnder_12 : decode cX10_isUnder 12 = .ok (.invokestatic 101, 3) := by decide +kernel
theorem dX10_isUnder_15 : decode cX10_isUnder 15 = .ok (.istore_n 2, 1) := by decide +kernel
theorem dX10_isUnder_16 : decode cX10_isUnder 16 = .ok (.goto (-14), 3) := by decide +kernel
theorem dX10_isUnder_19 : decode cX10_isUnder 19 = .ok (.iload_n 2, 1) := by decide +kernel
theorem dX10_isUnder_20 : decode cX10_isUnder 20 = .ok (.ifCond .lt 7, 3) := by decide +kernel
theorem dX10_isUnder_23 : decode cX10_isUnder 23 = .ok (.iconst 1, 1) := by decide +kernel
theorem dX10_isUnder_24 : decode cX10_isUnder 24 = .ok (.goto 4, 3) := by decide +kernel
theorem dX10_isUnder_27 : decode cX10_isUnder 27 = .ok (.iconst 0, 1) := by decide +kernel
theorem dX10_isUnder_28 : decode cX10_isUnder 28 = .ok (.ireturn, 1) := by decide +kernel
theorem dX10_bears_0 : decode cX10_bears 0 = .ok (.aload_n 0, 1) := by decide +kernel
theorem dX10_bears_1 : decode cX10_bears 1 = .ok (.iload_n 1, 1) := by decide +kernel
theorem dX10_bears_2 : decode cX10_bears 2 = .ok (.iconst 0, 1) := by decide +kernel
theorem dX10_bears_3 : decode cX10_bears 3 = .ok (.invokevirtual 104, 3) := by decide +kernel
theorem dX10_bears_6 : decode cX10_bears 6 = .ok (.istore_n 2, 1) := by decide +kernel
theorem dX10_bears_7 : decode cX10_bears 7 = .ok (.aload_n 0, 1) := by decide +kernel
theorem dX10_bears_8 : decode cX10_bears 8 = .ok (.iload_n 1, 1) := by decide +kernel
theorem dX10_bears_9 : decode cX10_bears 9 = .ok (.iconst 2, 1) := by decide +kernel
theorem dX10_bears_10 : decode cX10_bears 10 = .ok (.invokevirtual 104, 3) := by decide +kernel
theorem dX10_bears_13 : decode cX10_bears 13 = .ok (.istore_n 3, 1) := by decide +kernel
theorem dX10_bears_14 : decode cX10_bears 14 = .ok (.iload_n 2, 1) := by decide +kernel
theorem dX10_bears_15 : decode cX10_bears 15 = .ok (.iconst 1, 1) := by decide +kernel
theorem dX10_bears_16 : decode cX10_bears 16 = .ok (.invokestatic 107, 3) := by decide +kernel
theorem dX10_bears_19 : decode cX10_bears 19 = .ok (.ifCond .eq 9, 3) := by decide +kernel
theorem dX10_bears_22 : decode cX10_bears 22 = .ok (.iload_n 3, 1) := by decide +kernel
theorem dX10_bears_23 : decode cX10_bears 23 = .ok (.iconst 2, 1) := by decide +kernel
theorem dX10_bears_24 : decode cX10_bears 24 = .ok (.idiv, 1) := by decide +kernel
theorem dX10_bears_25 : decode cX10_bears 25 = .ok (.goto 18, 3) := by decide +kernel
theorem dX10_bears_28 : decode cX10_bears 28 = .ok (.iload_n 2, 1) := by decide +kernel
theorem dX10_bears_29 : decode cX10_bears 29 = .ok (.iconst 2, 1) := by decide +kernel
theorem dX10_bears_30 : decode cX10_bears 30 = .ok (.invokestatic 107, 3) := by decide +kernel
theorem dX10_bears_33 : decode cX10_bears 33 = .ok (.ifCond .eq 9, 3) := by decide +kernel
theorem dX10_bears_36 : decode cX10_bears 36 = .ok (.iconst 2, 1) := by decide +kernel
theorem dX10_bears_37 : decode cX10_bears 37 = .ok (.iload_n 3, 1) := by decide +kernel
theorem dX10_bears_38 : decode cX10_bears 38 = .ok (.imul, 1) := by decide +kernel
theorem dX10_bears_39 : decode cX10_bears 39 = .ok (.goto 4, 3) := by decide +kernel
theorem dX10_bears_42 : decode cX10_bears 42 = .ok (.iload_n 3, 1) := by decide +kernel
theorem dX10_bears_43 : decode cX10_bears 43 = .ok (.ireturn, 1) := by decide +kernel
theorem dX10_getsFor_0 : decode cX10_getsFor 0 = .ok (.aload_n 0, 1) := by decide +kernel
theorem dX10_getsFor_1 : decode cX10_getsFor 1 = .ok (.iload_n 1, 1) := by decide +kernel
theorem dX10_getsFor_2 : decode cX10_getsFor 2 = .ok (.iconst 0, 1) := by decide +kernel
theorem dX10_getsFor_3 : decode cX10_getsFor 3 = .ok (.invokevirtual 104, 3) := by decide +kernel
theorem dX10_getsFor_6 : decode cX10_getsFor 6 = .ok (.tableswitch 43 2 4 #[26, 36, 30], 26) := by decide +kernel
theorem dX10_getsFor_32 : decode cX10_getsFor 32 = .ok (.iload_n 2, 1) := by decide +kernel
theorem dX10_getsFor_33 : decode cX10_getsFor 33 = .ok (.iconst 2, 1) := by decide +kernel
theorem dX10_getsFor_34 : decode cX10_getsFor 34 = .ok (.idiv, 1) := by decide +kernel
theorem dX10_getsFor_35 : decode cX10_getsFor 35 = .ok (.ireturn, 1) := by decide +kernel
theorem dX10_getsFor_36 : decode cX10_getsFor 36 = .ok (.iload_n 2, 1) := by decide +kernel
theorem dX10_getsFor_37 : decode cX10_getsFor 37 = .ok (.iconst 2, 1) := by decide +kernel
theorem dX10_getsFor_38 : decode cX10_getsFor 38 = .ok (.idiv, 1) := by decide +kernel
theorem dX10_getsFor_39 : decode cX10_getsFor 39 = .ok (.iconst 1, 1) := by decide +kernel
theorem dX10_getsFor_40 : decode cX10_getsFor 40 = .ok (.iadd, 1) := by decide +kernel
theorem dX10_getsFor_41 : decode cX10_getsFor 41 = .ok (.ireturn, 1) := by decide +kernel
theorem dX10_getsFor_42 : decode cX10_getsFor 42 = .ok (.iload_n 2, 1) := by decide +kernel
theorem dX10_getsFor_43 : decode cX10_getsFor 43 = .ok (.iload_n 2, 1) := by decide +kernel
theorem dX10_getsFor_44 : decode cX10_getsFor 44 = .ok (.bipush 10, 2) := by decide +kernel
theorem dX10_getsFor_46 : decode cX10_getsFor 46 = .ok (.idiv, 1) := by decide +kernel
theorem dX10_getsFor_47 : decode cX10_getsFor 47 = .ok (.iadd, 1) := by decide +kernel
theorem dX10_getsFor_48 : decode cX10_getsFor 48 = .ok (.ireturn, 1) := by decide +kernel
theorem dX10_getsFor_49 : decode cX10_getsFor 49 = .ok (.iload_n 2, 1) := by decide +kernel
theorem dX10_getsFor_50 : decode cX10_getsFor 50 = .ok (.ireturn, 1) := by decide +kernel
theorem dX10_carries_0 : decode cX10_carries 0 = .ok (.iconst 0, 1) := by decide +kernel
theorem dX10_carries_1 : decode cX10_carries 1 = .ok (.istore_n 2, 1) := by decide +kernel
theorem dX10_carries_2 : decode cX10_carries 2 = .ok (.iconst 0, 1) := by decide +kernel
theorem dX10_carries_3 : decode cX10_carries 3 = .ok (.istore_n 3, 1) := by decide +kernel
theorem dX10_carries_4 : decode cX10_carries 4 = .ok (.iload_n 3, 1) := by decide +kernel
theorem dX10_carries_5 : decode cX10_carries 5 = .ok (.aload_n 0, 1) := by decide +kernel
theorem dX10_carries_6 : decode cX10_carries 6 = .ok (.getfield 9, 3) := by decide +kernel
theorem dX10_carries_9 : decode cX10_carries 9 = .ok (.bipush 43, 2) := by decide +kernel
theorem dX10_carries_11 : decode cX10_carries 11 = .ok (.iaload, 1) := by decide +kernel
theorem dX10_carries_12 : decode cX10_carries 12 = .ok (.if_icmp .ge 39, 3) := by decide +kernel
theorem dX10_carries_15 : decode cX10_carries 15 = .ok (.iload_n 2, 1) := by decide +kernel
theorem dX10_carries_16 : decode cX10_carries 16 = .ok (.aload_n 0, 1) := by decide +kernel
theorem dX10_carries_17 : decode cX10_carries 17 = .ok (.iload_n 3, 1) := by decide +kernel
theorem dX10_carries_18 : decode cX10_carries 18 = .ok (.iconst 3, 1) := by decide +kernel
theorem dX10_carries_19 : decode cX10_carries 19 = .ok (.invokevirtual 111, 3) := by decide +kernel
theorem dX10_carries_22 : decode cX10_carries 22 = .ok (.iconst 1, 1) := by decide +kernel
theorem dX10_carries_23 : decode cX10_carries 23 = .ok (.if_icmp .ne 19, 3) := by decide +kernel
theorem dX10_carries_26 : decode cX10_carries 26 = .ok (.aload_n 0, 1) := by decide +kernel
theorem dX10_carries_27 : decode cX10_carries 27 = .ok (.iload_n 3, 1) := by decide +kernel
theorem dX10_carries_28 : decode cX10_carries 28 = .ok (.iconst 4, 1) := by decide +kernel
theorem dX10_carries_29 : decode cX10_carries 29 = .ok (.invokevirtual 111, 3) := by decide +kernel
theorem dX10_carries_32 : decode cX10_carries 32 = .ok (.iload_n 1, 1) := by decide +kernel
theorem dX10_carries_33 : decode cX10_carries 33 = .ok (.if_icmp .ne 9, 3) := by decide +kernel
theorem dX10_carries_36 : decode cX10_carries 36 = .ok (.iconst 1, 1) := by decide +kernel
theorem dX10_carries_37 : decode cX10_carries 37 = .ok (.iload_n 3, 1) := by decide +kernel
theorem dX10_carries_38 : decode cX10_carries 38 = .ok (.ishl, 1) := by decide +kernel
theorem dX10_carries_39 : decode cX10_carries 39 = .ok (.goto 4, 3) := by decide +kernel
theorem dX10_carries_42 : decode cX10_carries 42 = .ok (.iconst 0, 1) := by decide +kernel
theorem dX10_carries_43 : decode cX10_carries 43 = .ok (.ior, 1) := by decide +kernel
theorem dX10_carries_44 : decode cX10_carries 44 = .ok (.istore_n 2, 1) := by decide +kernel
theorem dX10_carries_45 : decode cX10_carries 45 = .ok (.iinc 3 1, 3) := by decide +kernel
theorem dX10_carries_48 : decode cX10_carries 48 = .ok (.goto (-44), 3) := by decide +kernel
theorem dX10_carries_51 : decode cX10_carries 51 = .ok (.iload_n 2, 1) := by decide +kernel
theorem dX10_carries_52 : decode cX10_carries 52 = .ok (.ireturn, 1) := by decide +kernel
theorem dX10_weighs_0 : decode cX10_weighs 0 = .ok (.iconst 0, 1) := by decide +kernel
theorem dX10_weighs_1 : decode cX10_weighs 1 = .ok (.istore_n 2, 1) := by decide +kernel
theorem dX10_weighs_2 : decode cX10_weighs 2 = .ok (.iconst 0, 1) := by decide +kernel
theorem dX10_weighs_3 : decode cX10_weighs 3 = .ok (.istore_n 3, 1) := by decide +kernel
theorem dX10_weighs_4 : decode cX10_weighs 4 = .ok (.iload_n 3, 1) := by decide +kernel
theorem dX10_weighs_5 : decode cX10_weighs 5 = .ok (.aload_n 0, 1) := by decide +kernel
theorem dX10_weighs_6 : decode cX10_weighs 6 = .ok (.getfield 9, 3) := by decide +kernel
theorem dX10_weighs_9 : decode cX10_weighs 9 = .ok (.bipush 43, 2) := by decide +kernel
theorem dX10_weighs_11 : decode cX10_weighs 11 = .ok (.iaload, 1) := by decide +kernel
theorem dX10_weighs_12 : decode cX10_weighs 12 = .ok (.if_icmp .ge 30, 3) := by decide +kernel
theorem dX10_weighs_15 : decode cX10_weighs 15 = .ok (.iload_n 2, 1) := by decide +kernel
theorem dX10_weighs_16 : decode cX10_weighs 16 = .ok (.iload_n 1, 1) := by decide +kernel
theorem dX10_weighs_17 : decode cX10_weighs 17 = .ok (.iload_n 3, 1) := by decide +kernel
theorem dX10_weighs_18 : decode cX10_weighs 18 = .ok (.invokestatic 114, 3) := by decide +kernel
theorem dX10_weighs_21 : decode cX10_weighs 21 = .ok (.ifCond .eq 12, 3) := by decide +kernel
theorem dX10_weighs_24 : decode cX10_weighs 24 = .ok (.aload_n 0, 1) := by decide +kernel
theorem dX10_weighs_25 : decode cX10_weighs 25 = .ok (.iload_n 3, 1) := by decide +kernel
theorem dX10_weighs_26 : decode cX10_weighs 26 = .ok (.iconst 0, 1) := by decide +kernel
theorem dX10_weighs_27 : decode cX10_weighs 27 = .ok (.invokevirtual 111, 3) := by decide +kernel
theorem dX10_weighs_30 : decode cX10_weighs 30 = .ok (.goto 4, 3) := by decide +kernel
theorem dX10_weighs_33 : decode cX10_weighs 33 = .ok (.iconst 0, 1) := by decide +kernel
theorem dX10_weighs_34 : decode cX10_weighs 34 = .ok (.iadd, 1) := by decide +kernel
theorem dX10_weighs_35 : decode cX10_weighs 35 = .ok (.istore_n 2, 1) := by decide +kernel
theorem dX10_weighs_36 : decode cX10_weighs 36 = .ok (.iinc 3 1, 3) := by decide +kernel
theorem dX10_weighs_39 : decode cX10_weighs 39 = .ok (.goto (-35), 3) := by decide +kernel
theorem dX10_weighs_42 : decode cX10_weighs 42 = .ok (.iload_n 2, 1) := by decide +kernel
theorem dX10_weighs_43 : decode cX10_weighs 43 = .ok (.ireturn, 1) := by decide +kernel
theorem dX10_of_0 : decode cX10_of 0 = .ok (.aload_n 0, 1) := by decide +kernel
theorem dX10_of_1 : decode cX10_of 1 = .ok (.iload_n 1, 1) := by decide +kernel
theorem dX10_of_2 : decode cX10_of 2 = .ok (.invokevirtual 117, 3) := by decide +kernel
theorem dX10_of_5 : decode cX10_of 5 = .ok (.ifCond .eq 13, 3) := by decide +kernel
theorem dX10_of_8 : decode cX10_of 8 = .ok (.iload_n 2, 1) := by decide +kernel
theorem dX10_of_9 : decode cX10_of 9 = .ok (.iconst 0, 1) := by decide +kernel
theorem dX10_of_10 : decode cX10_of 10 = .ok (.bipush 7, 2) := by decide +kernel
theorem dX10_of_12 : decode cX10_of 12 = .ok (.invokestatic 77, 3) := by decide +kernel
theorem dX10_of_15 : decode cX10_of 15 = .ok (.ifCond .ne 10, 3) := by decide +kernel
theorem dX10_of_18 : decode cX10_of 18 = .ok (.aload_n 0, 1) := by decide +kernel
theorem dX10_of_19 : decode cX10_of 19 = .ok (.ldc 72, 2) := by decide +kernel
theorem dX10_of_21 : decode cX10_of 21 = .ok (.invokevirtual 92, 3) := by decide +kernel
theorem dX10_of_24 : decode cX10_of 24 = .ok (.ireturn, 1) := by decide +kernel
theorem dX10_of_25 : decode cX10_of 25 = .ok (.iload_n 2, 1) := by decide +kernel
theorem dX10_of_26 : decode cX10_of 26 = .ok (.tableswitch 48 5 7 #[26, 32, 38], 26) := by decide +kernel
theorem dX10_of_52 : decode cX10_of 52 = .ok (.aload_n 0, 1) := by decide +kernel
theorem dX10_of_53 : decode cX10_of 53 = .ok (.iload_n 1, 1) := by decide +kernel
theorem dX10_of_54 : decode cX10_of 54 = .ok (.invokevirtual 120, 3) := by decide +kernel
theorem dX10_of_57 : decode cX10_of 57 = .ok (.ireturn, 1) := by decide +kernel
theorem dX10_of_58 : decode cX10_of 58 = .ok (.aload_n 0, 1) := by decide +kernel
theorem dX10_of_59 : decode cX10_of 59 = .ok (.iload_n 1, 1) := by decide +kernel
theorem dX10_of_60 : decode cX10_of 60 = .ok (.invokevirtual 123, 3) := by decide +kernel
theorem dX10_of_63 : decode cX10_of 63 = .ok (.ireturn, 1) := by decide +kernel
theorem dX10_of_64 : decode cX10_of 64 = .ok (.aload_n 0, 1) := by decide +kernel
theorem dX10_of_65 : decode cX10_of 65 = .ok (.aload_n 0, 1) := by decide +kernel
theorem dX10_of_66 : decode cX10_of 66 = .ok (.iload_n 1, 1) := by decide +kernel
theorem dX10_of_67 : decode cX10_of 67 = .ok (.invokevirtual 123, 3) := by decide +kernel
theorem dX10_of_70 : decode cX10_of 70 = .ok (.invokevirtual 126, 3) := by decide +kernel
theorem dX10_of_73 : decode cX10_of 73 = .ok (.ireturn, 1) := by decide +kernel
theorem dX10_of_74 : decode cX10_of 74 = .ok (.aload_n 0, 1) := by decide +kernel
theorem dX10_of_75 : decode cX10_of 75 = .ok (.iload_n 1, 1) := by decide +kernel
theorem dX10_of_76 : decode cX10_of 76 = .ok (.iload_n 2, 1) := by decide +kernel
theorem dX10_of_77 : decode cX10_of 77 = .ok (.invokevirtual 104, 3) := by decide +kernel
theorem dX10_of_80 : decode cX10_of 80 = .ok (.ireturn, 1) := by decide +kernel
theorem dX10_change_0 : decode cX10_change 0 = .ok (.iload_n 2, 1) := by decide +kernel
theorem dX10_change_1 : decode cX10_change 1 = .ok (.ifCond .ne 10, 3) := by decide +kernel
theorem dX10_change_4 : decode cX10_change 4 = .ok (.iload_n 3, 1) := by decide +kernel
theorem dX10_change_5 : decode cX10_change 5 = .ok (.invokestatic 88, 3) := by decide +kernel
theorem dX10_change_8 : decode cX10_change 8 = .ok (.ifCond .ne 45, 3) := by decide +kernel
theorem dX10_change_11 : decode cX10_change 11 = .ok (.iload_n 2, 1) := by decide +kernel
theorem dX10_change_12 : decode cX10_change 12 = .ok (.iconst 1, 1) := by decide +kernel
theorem dX10_change_13 : decode cX10_change 13 = .ok (.if_icmp .ne 10, 3) := by decide +kernel
theorem dX10_change_16 : decode cX10_change 16 = .ok (.iload_n 3, 1) := by decide +kernel
theorem dX10_change_17 : decode cX10_change 17 = .ok (.invokestatic 129, 3) := by decide +kernel
theorem dX10_change_20 : decode cX10_change 20 = .ok (.ifCond .ne 33, 3) := by decide +kernel
theorem dX10_change_23 : decode cX10_change 23 = .ok (.iload_n 2, 1) := by decide +kernel
theorem dX10_change_24 : decode cX10_change 24 = .ok (.iconst 2, 1) := by decide +kernel
theorem dX10_change_25 : decode cX10_change 25 = .ok (.if_icmp .ne 13, 3) := by decide +kernel
theorem dX10_change_28 : decode cX10_change 28 = .ok (.iload_n 3, 1) := by decide +kernel
theorem dX10_change_29 : decode cX10_change 29 = .ok (.iconst 1, 1) := by decide +kernel
theorem dX10_change_30 : decode cX10_change 30 = .ok (.bipush 99, 2) := by decide +kernel
theorem dX10_change_32 : decode cX10_change 32 = .ok (.invokestatic 77, 3) := by decide +kernel
theorem dX10_change_35 : decode cX10_change 35 = .ok (.ifCond .ne 18, 3) := by decide +kernel
theorem dX10_change_38 : decode cX10_change 38 = .ok (.iload_n 2, 1) := by decide +kernel
theorem dX10_change_39 : decode cX10_change 39 = .ok (.iconst 3, 1) := by decide +kernel
theorem dX10_change_40 : decode cX10_change 40 = .ok (.if_icmp .ne 17, 3) := by decide +kernel
theorem dX10_change_43 : decode cX10_change 43 = .ok (.iload_n 3, 1) := by decide +kernel
theorem dX10_change_44 : decode cX10_change 44 = .ok (.iconst 0, 1) := by decide +kernel
theorem dX10_change_45 : decode cX10_change 45 = .ok (.ldc 132, 2) := by decide +kernel
theorem dX10_change_47 : decode cX10_change 47 = .ok (.invokestatic 77, 3) := by decide +kernel
theorem dX10_change_50 : decode cX10_change 50 = .ok (.ifCond .eq 7, 3) := by decide +kernel
theorem dX10_change_53 : decode cX10_change 53 = .ok (.iconst 1, 1) := by decide +kernel
theorem dX10_change_54 : decode cX10_change 54 = .ok (.goto 4, 3) := by decide +kernel
theorem dX10_change_57 : decode cX10_change 57 = .ok (.iconst 0, 1) := by decide +kernel
theorem dX10_change_58 : decode cX10_change 58 = .ok (.istore 4, 2) := by decide +kernel
theorem dX10_change_60 : decode cX10_change 60 = .ok (.aload_n 0, 1) := by decide +kernel
theorem dX10_change_61 : decode cX10_change 61 = .ok (.iload_n 1, 1) := by decide +kernel
theorem dX10_change_62 : decode cX10_change 62 = .ok (.invokevirtual 117, 3) := by decide +kernel
theorem dX10_change_65 : decode cX10_change 65 = .ok (.ifCond .eq 21, 3) := by decide +kernel
theorem dX10_change_68 : decode cX10_change 68 = .ok (.iload 4, 2) := by decide +kernel
theorem dX10_change_70 : decode cX10_change 70 = .ok (.ifCond .eq 16, 3) := by decide +kernel
theorem dX10_change_73 : decode cX10_change 73 = .ok (.aload_n 0, 1) := by decide +kernel
theorem dX10_change_74 : decode cX10_change 74 = .ok (.iload_n 1, 1) := by decide +kernel
theorem dX10_change_75 : decode cX10_change 75 = .ok (.iload_n 2, 1) := by decide +kernel
theorem dX10_change_76 : decode cX10_change 76 = .ok (.invokestatic 81, 3) := by decide +kernel
theorem dX10_change_79 : decode cX10_change 79 = .ok (.iload_n 3, 1) := by decide +kernel
theorem dX10_change_80 : decode cX10_change 80 = .ok (.invokevirtual 133, 3) := by decide +kernel
theorem dX10_change_83 : decode cX10_change 83 = .ok (.goto 9, 3) := by decide +kernel
theorem dX10_change_86 : decode cX10_change 86 = .ok (.aload_n 0, 1) := by decide +kernel
theorem dX10_change_87 : decode cX10_change 87 = .ok (.ldc 72, 2) := by decide +kernel
theorem dX10_change_89 : decode cX10_change 89 = .ok (.invokevirtual 92, 3) := by decide +kernel
theorem dX10_change_92 : decode cX10_change 92 = .ok (.ireturn, 1) := by decide +kernel
theorem dX10_wayAt_0 : decode cX10_wayAt 0 = .ok (.iload_n 0, 1) := by decide +kernel
theorem dX10_wayAt_1 : decode cX10_wayAt 1 = .ok (.iload_n 1, 1) := by decide +kernel
theorem dX10_wayAt_2 : decode cX10_wayAt 2 = .ok (.invokestatic 136, 3) := by decide +kernel
theorem dX10_wayAt_5 : decode cX10_wayAt 5 = .ok (.istore_n 2, 1) := by decide +kernel
theorem dX10_wayAt_6 : decode cX10_wayAt 6 = .ok (.iload_n 0, 1) := by decide +kernel
theorem dX10_wayAt_7 : decode cX10_wayAt 7 = .ok (.iload_n 1, 1) := by decide +kernel
theorem dX10_wayAt_8 : decode cX10_wayAt 8 = .ok (.invokestatic 141, 3) := by decide +kernel
theorem dX10_wayAt_11 : decode cX10_wayAt 11 = .ok (.istore_n 3, 1) := by decide +kernel
theorem dX10_wayAt_12 : decode cX10_wayAt 12 = .ok (.iconst 0, 1) := by decide +kernel
theorem dX10_wayAt_13 : decode cX10_wayAt 13 = .ok (.iconst 2, 1) := by decide +kernel
theorem dX10_wayAt_14 : decode cX10_wayAt 14 = .ok (.iload_n 2, 1) := by decide +kernel
theorem dX10_wayAt_15 : decode cX10_wayAt 15 = .ok (.bipush 13, 2) := by decide +kernel
theorem dX10_wayAt_17 : decode cX10_wayAt 17 = .ok (.iload_n 2, 1) := by decide +kernel
theorem dX10_wayAt_18 : decode cX10_wayAt 18 = .ok (.isub, 1) := by decide +kernel
theorem dX10_wayAt_19 : decode cX10_wayAt 19 = .ok (.imul, 1) := by decide +kernel
theorem dX10_wayAt_20 : decode cX10_wayAt 20 = .ok (.iconst 2, 1) := by decide +kernel
theorem dX10_wayAt_21 : decode cX10_wayAt 21 = .ok (.idiv, 1) := by decide +kernel
theorem dX10_wayAt_22 : decode cX10_wayAt 22 = .ok (.iload_n 3, 1) := by decide +kernel
theorem dX10_wayAt_23 : decode cX10_wayAt 23 = .ok (.iadd, 1) := by decide +kernel
theorem dX10_wayAt_24 : decode cX10_wayAt 24 = .ok (.iload_n 2, 1) := by decide +kernel
theorem dX10_wayAt_25 : decode cX10_wayAt 25 = .ok (.isub, 1) := by decide +kernel
theorem dX10_wayAt_26 : decode cX10_wayAt 26 = .ok (.iconst 1, 1) := by decide +kernel
theorem dX10_wayAt_27 : decode cX10_wayAt 27 = .ok (.isub, 1) := by decide +kernel
theorem dX10_wayAt_28 : decode cX10_wayAt 28 = .ok (.imul, 1) := by decide +kernel
theorem dX10_wayAt_29 : decode cX10_wayAt 29 = .ok (.iadd, 1) := by decide +kernel
theorem dX10_wayAt_30 : decode cX10_wayAt 30 = .ok (.ireturn, 1) := by decide +kernel
theorem dX10_wayIs_0 : decode cX10_wayIs 0 = .ok (.aload_n 0, 1) := by decide +kernel
theorem dX10_wayIs_1 : decode cX10_wayIs 1 = .ok (.getfield 9, 3) := by decide +kernel
theorem dX10_wayIs_4 : decode cX10_wayIs 4 = .ok (.iload_n 1, 1) := by decide +kernel
theorem dX10_wayIs_5 : decode cX10_wayIs 5 = .ok (.iload_n 2, 1) := by decide +kernel
theorem dX10_wayIs_6 : decode cX10_wayIs 6 = .ok (.invokestatic 144, 3) := by decide +kernel
theorem dX10_wayIs_9 : decode cX10_wayIs 9 = .ok (.iconst 1, 1) := by decide +kernel
theorem dX10_wayIs_10 : decode cX10_wayIs 10 = .ok (.iadd, 1) := by decide +kernel
