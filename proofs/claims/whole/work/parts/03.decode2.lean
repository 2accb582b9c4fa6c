theorem dX10_wayIs_11 : decode cX10_wayIs 11 = .ok (.iload 4, 2) := by decide +kernel
theorem dX10_wayIs_13 : decode cX10_wayIs 13 = .ok (.iastore, 1) := by decide +kernel
theorem dX10_wayIs_14 : decode cX10_wayIs 14 = .ok (.aload_n 0, 1) := by decide +kernel
theorem dX10_wayIs_15 : decode cX10_wayIs 15 = .ok (.iload_n 1, 1) := by decide +kernel
theorem dX10_wayIs_16 : decode cX10_wayIs 16 = .ok (.iload_n 2, 1) := by decide +kernel
theorem dX10_wayIs_17 : decode cX10_wayIs 17 = .ok (.invokestatic 144, 3) := by decide +kernel
theorem dX10_wayIs_20 : decode cX10_wayIs 20 = .ok (.iload_n 3, 1) := by decide +kernel
theorem dX10_wayIs_21 : decode cX10_wayIs 21 = .ok (.invokevirtual 133, 3) := by decide +kernel
theorem dX10_wayIs_24 : decode cX10_wayIs 24 = .ok (.ireturn, 1) := by decide +kernel
theorem dX10_way_0 : decode cX10_way 0 = .ok (.iload_n 1, 1) := by decide +kernel
theorem dX10_way_1 : decode cX10_way 1 = .ok (.invokestatic 129, 3) := by decide +kernel
theorem dX10_way_4 : decode cX10_way 4 = .ok (.ifCond .eq 39, 3) := by decide +kernel
theorem dX10_way_7 : decode cX10_way 7 = .ok (.iload_n 2, 1) := by decide +kernel
theorem dX10_way_8 : decode cX10_way 8 = .ok (.invokestatic 129, 3) := by decide +kernel
theorem dX10_way_11 : decode cX10_way 11 = .ok (.ifCond .eq 32, 3) := by decide +kernel
theorem dX10_way_14 : decode cX10_way 14 = .ok (.iload_n 1, 1) := by decide +kernel
theorem dX10_way_15 : decode cX10_way 15 = .ok (.iload_n 2, 1) := by decide +kernel
theorem dX10_way_16 : decode cX10_way 16 = .ok (.if_icmp .eq 27, 3) := by decide +kernel
theorem dX10_way_19 : decode cX10_way 19 = .ok (.iload_n 3, 1) := by decide +kernel
theorem dX10_way_20 : decode cX10_way 20 = .ok (.iconst 0, 1) := by decide +kernel
theorem dX10_way_21 : decode cX10_way 21 = .ok (.bipush 99, 2) := by decide +kernel
theorem dX10_way_23 : decode cX10_way 23 = .ok (.invokestatic 77, 3) := by decide +kernel
theorem dX10_way_26 : decode cX10_way 26 = .ok (.ifCond .eq 17, 3) := by decide +kernel
theorem dX10_way_29 : decode cX10_way 29 = .ok (.iload 4, 2) := by decide +kernel
theorem dX10_way_31 : decode cX10_way 31 = .ok (.iconst 0, 1) := by decide +kernel
theorem dX10_way_32 : decode cX10_way 32 = .ok (.iconst 1, 1) := by decide +kernel
theorem dX10_way_33 : decode cX10_way 33 = .ok (.invokestatic 77, 3) := by decide +kernel
theorem dX10_way_36 : decode cX10_way 36 = .ok (.ifCond .eq 7, 3) := by decide +kernel
theorem dX10_way_39 : decode cX10_way 39 = .ok (.iconst 1, 1) := by decide +kernel
theorem dX10_way_40 : decode cX10_way 40 = .ok (.goto 4, 3) := by decide +kernel
theorem dX10_way_43 : decode cX10_way 43 = .ok (.iconst 0, 1) := by decide +kernel
theorem dX10_way_44 : decode cX10_way 44 = .ok (.istore 5, 2) := by decide +kernel
theorem dX10_way_46 : decode cX10_way 46 = .ok (.iload 5, 2) := by decide +kernel
theorem dX10_way_48 : decode cX10_way 48 = .ok (.ifCond .eq 15, 3) := by decide +kernel
theorem dX10_way_51 : decode cX10_way 51 = .ok (.aload_n 0, 1) := by decide +kernel
theorem dX10_way_52 : decode cX10_way 52 = .ok (.iload_n 1, 1) := by decide +kernel
theorem dX10_way_53 : decode cX10_way 53 = .ok (.iload_n 2, 1) := by decide +kernel
theorem dX10_way_54 : decode cX10_way 54 = .ok (.iload_n 3, 1) := by decide +kernel
theorem dX10_way_55 : decode cX10_way 55 = .ok (.iload 4, 2) := by decide +kernel
theorem dX10_way_57 : decode cX10_way 57 = .ok (.invokevirtual 147, 3) := by decide +kernel
theorem dX10_way_60 : decode cX10_way 60 = .ok (.goto 9, 3) := by decide +kernel
theorem dX10_way_63 : decode cX10_way 63 = .ok (.aload_n 0, 1) := by decide +kernel
theorem dX10_way_64 : decode cX10_way 64 = .ok (.ldc 72, 2) := by decide +kernel
theorem dX10_way_66 : decode cX10_way 66 = .ok (.invokevirtual 92, 3) := by decide +kernel
theorem dX10_way_69 : decode cX10_way 69 = .ok (.ireturn, 1) := by decide +kernel
theorem dX10_wayOf_0 : decode cX10_wayOf 0 = .ok (.iload_n 1, 1) := by decide +kernel
theorem dX10_wayOf_1 : decode cX10_wayOf 1 = .ok (.invokestatic 129, 3) := by decide +kernel
theorem dX10_wayOf_4 : decode cX10_wayOf 4 = .ok (.ifCond .eq 28, 3) := by decide +kernel
theorem dX10_wayOf_7 : decode cX10_wayOf 7 = .ok (.iload_n 2, 1) := by decide +kernel
theorem dX10_wayOf_8 : decode cX10_wayOf 8 = .ok (.invokestatic 129, 3) := by decide +kernel
theorem dX10_wayOf_11 : decode cX10_wayOf 11 = .ok (.ifCond .eq 21, 3) := by decide +kernel
theorem dX10_wayOf_14 : decode cX10_wayOf 14 = .ok (.iload_n 1, 1) := by decide +kernel
theorem dX10_wayOf_15 : decode cX10_wayOf 15 = .ok (.iload_n 2, 1) := by decide +kernel
theorem dX10_wayOf_16 : decode cX10_wayOf 16 = .ok (.if_icmp .eq 16, 3) := by decide +kernel
theorem dX10_wayOf_19 : decode cX10_wayOf 19 = .ok (.iload_n 3, 1) := by decide +kernel
theorem dX10_wayOf_20 : decode cX10_wayOf 20 = .ok (.iconst 0, 1) := by decide +kernel
theorem dX10_wayOf_21 : decode cX10_wayOf 21 = .ok (.iconst 1, 1) := by decide +kernel
theorem dX10_wayOf_22 : decode cX10_wayOf 22 = .ok (.invokestatic 77, 3) := by decide +kernel
theorem dX10_wayOf_25 : decode cX10_wayOf 25 = .ok (.ifCond .eq 7, 3) := by decide +kernel
theorem dX10_wayOf_28 : decode cX10_wayOf 28 = .ok (.iconst 1, 1) := by decide +kernel
theorem dX10_wayOf_29 : decode cX10_wayOf 29 = .ok (.goto 4, 3) := by decide +kernel
theorem dX10_wayOf_32 : decode cX10_wayOf 32 = .ok (.iconst 0, 1) := by decide +kernel
theorem dX10_wayOf_33 : decode cX10_wayOf 33 = .ok (.istore 4, 2) := by decide +kernel
theorem dX10_wayOf_35 : decode cX10_wayOf 35 = .ok (.iload 4, 2) := by decide +kernel
theorem dX10_wayOf_37 : decode cX10_wayOf 37 = .ok (.ifCond .eq 18, 3) := by decide +kernel
theorem dX10_wayOf_40 : decode cX10_wayOf 40 = .ok (.aload_n 0, 1) := by decide +kernel
theorem dX10_wayOf_41 : decode cX10_wayOf 41 = .ok (.getfield 9, 3) := by decide +kernel
theorem dX10_wayOf_44 : decode cX10_wayOf 44 = .ok (.iload_n 1, 1) := by decide +kernel
theorem dX10_wayOf_45 : decode cX10_wayOf 45 = .ok (.iload_n 2, 1) := by decide +kernel
theorem dX10_wayOf_46 : decode cX10_wayOf 46 = .ok (.invokestatic 144, 3) := by decide +kernel
theorem dX10_wayOf_49 : decode cX10_wayOf 49 = .ok (.iload_n 3, 1) := by decide +kernel
theorem dX10_wayOf_50 : decode cX10_wayOf 50 = .ok (.iadd, 1) := by decide +kernel
theorem dX10_wayOf_51 : decode cX10_wayOf 51 = .ok (.iaload, 1) := by decide +kernel
theorem dX10_wayOf_52 : decode cX10_wayOf 52 = .ok (.goto 9, 3) := by decide +kernel
theorem dX10_wayOf_55 : decode cX10_wayOf 55 = .ok (.aload_n 0, 1) := by decide +kernel
theorem dX10_wayOf_56 : decode cX10_wayOf 56 = .ok (.ldc 72, 2) := by decide +kernel
theorem dX10_wayOf_58 : decode cX10_wayOf 58 = .ok (.invokevirtual 92, 3) := by decide +kernel
theorem dX10_wayOf_61 : decode cX10_wayOf 61 = .ok (.ireturn, 1) := by decide +kernel
theorem dX10_newErrand_0 : decode cX10_newErrand 0 = .ok (.aload_n 0, 1) := by decide +kernel
theorem dX10_newErrand_1 : decode cX10_newErrand 1 = .ok (.getfield 9, 3) := by decide +kernel
theorem dX10_newErrand_4 : decode cX10_newErrand 4 = .ok (.bipush 43, 2) := by decide +kernel
theorem dX10_newErrand_6 : decode cX10_newErrand 6 = .ok (.iaload, 1) := by decide +kernel
theorem dX10_newErrand_7 : decode cX10_newErrand 7 = .ok (.istore 4, 2) := by decide +kernel
theorem dX10_newErrand_9 : decode cX10_newErrand 9 = .ok (.aload_n 0, 1) := by decide +kernel
theorem dX10_newErrand_10 : decode cX10_newErrand 10 = .ok (.getfield 9, 3) := by decide +kernel
theorem dX10_newErrand_13 : decode cX10_newErrand 13 = .ok (.iload 4, 2) := by decide +kernel
theorem dX10_newErrand_15 : decode cX10_newErrand 15 = .ok (.iconst 0, 1) := by decide +kernel
theorem dX10_newErrand_16 : decode cX10_newErrand 16 = .ok (.invokestatic 85, 3) := by decide +kernel
theorem dX10_newErrand_19 : decode cX10_newErrand 19 = .ok (.iload_n 1, 1) := by decide +kernel
theorem dX10_newErrand_20 : decode cX10_newErrand 20 = .ok (.iastore, 1) := by decide +kernel
theorem dX10_newErrand_21 : decode cX10_newErrand 21 = .ok (.aload_n 0, 1) := by decide +kernel
theorem dX10_newErrand_22 : decode cX10_newErrand 22 = .ok (.getfield 9, 3) := by decide +kernel
theorem dX10_newErrand_25 : decode cX10_newErrand 25 = .ok (.iload 4, 2) := by decide +kernel
theorem dX10_newErrand_27 : decode cX10_newErrand 27 = .ok (.iconst 1, 1) := by decide +kernel
theorem dX10_newErrand_28 : decode cX10_newErrand 28 = .ok (.invokestatic 85, 3) := by decide +kernel
theorem dX10_newErrand_31 : decode cX10_newErrand 31 = .ok (.iload_n 2, 1) := by decide +kernel
theorem dX10_newErrand_32 : decode cX10_newErrand 32 = .ok (.iastore, 1) := by decide +kernel
theorem dX10_newErrand_33 : decode cX10_newErrand 33 = .ok (.aload_n 0, 1) := by decide +kernel
theorem dX10_newErrand_34 : decode cX10_newErrand 34 = .ok (.getfield 9, 3) := by decide +kernel
theorem dX10_newErrand_37 : decode cX10_newErrand 37 = .ok (.iload 4, 2) := by decide +kernel
theorem dX10_newErrand_39 : decode cX10_newErrand 39 = .ok (.iconst 2, 1) := by decide +kernel
theorem dX10_newErrand_40 : decode cX10_newErrand 40 = .ok (.invokestatic 85, 3) := by decide +kernel
theorem dX10_newErrand_43 : decode cX10_newErrand 43 = .ok (.iload_n 3, 1) := by decide +kernel
theorem dX10_newErrand_44 : decode cX10_newErrand 44 = .ok (.iastore, 1) := by decide +kernel
theorem dX10_newErrand_45 : decode cX10_newErrand 45 = .ok (.aload_n 0, 1) := by decide +kernel
theorem dX10_newErrand_46 : decode cX10_newErrand 46 = .ok (.getfield 9, 3) := by decide +kernel
theorem dX10_newErrand_49 : decode cX10_newErrand 49 = .ok (.iload 4, 2) := by decide +kernel
theorem dX10_newErrand_51 : decode cX10_newErrand 51 = .ok (.iconst 3, 1) := by decide +kernel
theorem dX10_newErrand_52 : decode cX10_newErrand 52 = .ok (.invokestatic 85, 3) := by decide +kernel
theorem dX10_newErrand_55 : decode cX10_newErrand 55 = .ok (.iconst 0, 1) := by decide +kernel
theorem dX10_newErrand_56 : decode cX10_newErrand 56 = .ok (.iastore, 1) := by decide +kernel
theorem dX10_newErrand_57 : decode cX10_newErrand 57 = .ok (.aload_n 0, 1) := by decide +kernel
theorem dX10_newErrand_58 : decode cX10_newErrand 58 = .ok (.getfield 9, 3) := by decide +kernel
theorem dX10_newErrand_61 : decode cX10_newErrand 61 = .ok (.iload 4, 2) := by decide +kernel
theorem dX10_newErrand_63 : decode cX10_newErrand 63 = .ok (.iconst 4, 1) := by decide +kernel
theorem dX10_newErrand_64 : decode cX10_newErrand 64 = .ok (.invokestatic 85, 3) := by decide +kernel
theorem dX10_newErrand_67 : decode cX10_newErrand 67 = .ok (.iconst (-1), 1) := by decide +kernel
theorem dX10_newErrand_68 : decode cX10_newErrand 68 = .ok (.iastore, 1) := by decide +kernel
theorem dX10_newErrand_69 : decode cX10_newErrand 69 = .ok (.aload_n 0, 1) := by decide +kernel
theorem dX10_newErrand_70 : decode cX10_newErrand 70 = .ok (.getfield 9, 3) := by decide +kernel
theorem dX10_newErrand_73 : decode cX10_newErrand 73 = .ok (.bipush 43, 2) := by decide +kernel
theorem dX10_newErrand_75 : decode cX10_newErrand 75 = .ok (.dup2, 1) := by decide +kernel
theorem dX10_newErrand_76 : decode cX10_newErrand 76 = .ok (.iaload, 1) := by decide +kernel
theorem dX10_newErrand_77 : decode cX10_newErrand 77 = .ok (.iconst 1, 1) := by decide +kernel
theorem dX10_newErrand_78 : decode cX10_newErrand 78 = .ok (.iadd, 1) := by decide +kernel
theorem dX10_newErrand_79 : decode cX10_newErrand 79 = .ok (.iastore, 1) := by decide +kernel
theorem dX10_newErrand_80 : decode cX10_newErrand 80 = .ok (.iload 4, 2) := by decide +kernel
theorem dX10_newErrand_82 : decode cX10_newErrand 82 = .ok (.ireturn, 1) := by decide +kernel
theorem dX10_errand_0 : decode cX10_errand 0 = .ok (.iload_n 1, 1) := by decide +kernel
theorem dX10_errand_1 : decode cX10_errand 1 = .ok (.iconst 1, 1) := by decide +kernel
theorem dX10_errand_2 : decode cX10_errand 2 = .ok (.bipush 60, 2) := by decide +kernel
theorem dX10_errand_4 : decode cX10_errand 4 = .ok (.invokestatic 77, 3) := by decide +kernel
theorem dX10_errand_7 : decode cX10_errand 7 = .ok (.ifCond .eq 22, 3) := by decide +kernel
theorem dX10_errand_10 : decode cX10_errand 10 = .ok (.iload_n 2, 1) := by decide +kernel
theorem dX10_errand_11 : decode cX10_errand 11 = .ok (.invokestatic 129, 3) := by decide +kernel
theorem dX10_errand_14 : decode cX10_errand 14 = .ok (.ifCond .eq 15, 3) := by decide +kernel
theorem dX10_errand_17 : decode cX10_errand 17 = .ok (.iload_n 3, 1) := by decide +kernel
theorem dX10_errand_18 : decode cX10_errand 18 = .ok (.invokestatic 129, 3) := by decide +kernel
theorem dX10_errand_21 : decode cX10_errand 21 = .ok (.ifCond .eq 8, 3) := by decide +kernel
theorem dX10_errand_24 : decode cX10_errand 24 = .ok (.iload_n 2, 1) := by decide +kernel
theorem dX10_errand_25 : decode cX10_errand 25 = .ok (.iload_n 3, 1) := by decide +kernel
theorem dX10_errand_26 : decode cX10_errand 26 = .ok (.if_icmp .ne 10, 3) := by decide +kernel
theorem dX10_errand_29 : decode cX10_errand 29 = .ok (.aload_n 0, 1) := by decide +kernel
theorem dX10_errand_30 : decode cX10_errand 30 = .ok (.ldc 72, 2) := by decide +kernel
theorem dX10_errand_32 : decode cX10_errand 32 = .ok (.invokevirtual 92, 3) := by decide +kernel
theorem dX10_errand_35 : decode cX10_errand 35 = .ok (.ireturn, 1) := by decide +kernel
theorem dX10_errand_36 : decode cX10_errand 36 = .ok (.aload_n 0, 1) := by decide +kernel
theorem dX10_errand_37 : decode cX10_errand 37 = .ok (.getfield 9, 3) := by decide +kernel
theorem dX10_errand_40 : decode cX10_errand 40 = .ok (.bipush 43, 2) := by decide +kernel
theorem dX10_errand_42 : decode cX10_errand 42 = .ok (.iaload, 1) := by decide +kernel
theorem dX10_errand_43 : decode cX10_errand 43 = .ok (.bipush 8, 2) := by decide +kernel
theorem dX10_errand_45 : decode cX10_errand 45 = .ok (.if_icmp .ne 12, 3) := by decide +kernel
theorem dX10_errand_48 : decode cX10_errand 48 = .ok (.aload_n 0, 1) := by decide +kernel
theorem dX10_errand_49 : decode cX10_errand 49 = .ok (.ldc 96, 2) := by decide +kernel
theorem dX10_errand_51 : decode cX10_errand 51 = .ok (.invokevirtual 92, 3) := by decide +kernel
theorem dX10_errand_54 : decode cX10_errand 54 = .ok (.goto 10, 3) := by decide +kernel
theorem dX10_errand_57 : decode cX10_errand 57 = .ok (.aload_n 0, 1) := by decide +kernel
theorem dX10_errand_58 : decode cX10_errand 58 = .ok (.iload_n 1, 1) := by decide +kernel
theorem dX10_errand_59 : decode cX10_errand 59 = .ok (.iload_n 2, 1) := by decide +kernel
theorem dX10_errand_60 : decode cX10_errand 60 = .ok (.iload_n 3, 1) := by decide +kernel
theorem dX10_errand_61 : decode cX10_errand 61 = .ok (.invokevirtual 151, 3) := by decide +kernel
theorem dX10_errand_64 : decode cX10_errand 64 = .ok (.ireturn, 1) := by decide +kernel
theorem dX10_errandOf_0 : decode cX10_errandOf 0 = .ok (.aload_n 0, 1) := by decide +kernel
theorem dX10_errandOf_1 : decode cX10_errandOf 1 = .ok (.iload_n 1, 1) := by decide +kernel
theorem dX10_errandOf_2 : decode cX10_errandOf 2 = .ok (.invokevirtual 154, 3) := by decide +kernel
theorem dX10_errandOf_5 : decode cX10_errandOf 5 = .ok (.ifCond .eq 12, 3) := by decide +kernel
theorem dX10_errandOf_8 : decode cX10_errandOf 8 = .ok (.iload_n 2, 1) := by decide +kernel
theorem dX10_errandOf_9 : decode cX10_errandOf 9 = .ok (.iconst 0, 1) := by decide +kernel
theorem dX10_errandOf_10 : decode cX10_errandOf 10 = .ok (.iconst 5, 1) := by decide +kernel
theorem dX10_errandOf_11 : decode cX10_errandOf 11 = .ok (.invokestatic 77, 3) := by decide +kernel
theorem dX10_errandOf_14 : decode cX10_errandOf 14 = .ok (.ifCond .ne 10, 3) := by decide +kernel
theorem dX10_errandOf_17 : decode cX10_errandOf 17 = .ok (.aload_n 0, 1) := by decide +kernel
theorem dX10_errandOf_18 : decode cX10_errandOf 18 = .ok (.ldc 72, 2) := by decide +kernel
theorem dX10_errandOf_20 : decode cX10_errandOf 20 = .ok (.invokevirtual 92, 3) := by decide +kernel
theorem dX10_errandOf_23 : decode cX10_errandOf 23 = .ok (.ireturn, 1) := by decide +kernel
theorem dX10_errandOf_24 : decode cX10_errandOf 24 = .ok (.iload_n 2, 1) := by decide +kernel
theorem dX10_errandOf_25 : decode cX10_errandOf 25 = .ok (.iconst 5, 1) := by decide +kernel
theorem dX10_errandOf_26 : decode cX10_errandOf 26 = .ok (.if_icmp .ge 10, 3) := by decide +kernel
theorem dX10_errandOf_29 : decode cX10_errandOf 29 = .ok (.aload_n 0, 1) := by decide +kernel
theorem dX10_errandOf_30 : decode cX10_errandOf 30 = .ok (.iload_n 1, 1) := by decide +kernel
theorem dX10_errandOf_31 : decode cX10_errandOf 31 = .ok (.iload_n 2, 1) := by decide +kernel
theorem dX10_errandOf_32 : decode cX10_errandOf 32 = .ok (.invokevirtual 111, 3) := by decide +kernel
theorem dX10_errandOf_35 : decode cX10_errandOf 35 = .ok (.ireturn, 1) := by decide +kernel
theorem dX10_errandOf_36 : decode cX10_errandOf 36 = .ok (.aload_n 0, 1) := by decide +kernel
theorem dX10_errandOf_37 : decode cX10_errandOf 37 = .ok (.iload_n 1, 1) := by decide +kernel
theorem dX10_errandOf_38 : decode cX10_errandOf 38 = .ok (.invokevirtual 157, 3) := by decide +kernel
theorem dX10_errandOf_41 : decode cX10_errandOf 41 = .ok (.istore_n 3, 1) := by decide +kernel
theorem dX10_errandOf_42 : decode cX10_errandOf 42 = .ok (.iload_n 3, 1) := by decide +kernel
theorem dX10_errandOf_43 : decode cX10_errandOf 43 = .ok (.ifCond .ge 12, 3) := by decide +kernel
theorem dX10_errandOf_46 : decode cX10_errandOf 46 = .ok (.aload_n 0, 1) := by decide +kernel
theorem dX10_errandOf_47 : decode cX10_errandOf 47 = .ok (.ldc 160, 2) := by decide +kernel
theorem dX10_errandOf_49 : decode cX10_errandOf 49 = .ok (.invokevirtual 92, 3) := by decide +kernel
theorem dX10_errandOf_52 : decode cX10_errandOf 52 = .ok (.goto 4, 3) := by decide +kernel
theorem dX10_errandOf_55 : decode cX10_errandOf 55 = .ok (.iload_n 3, 1) := by decide +kernel
theorem dX10_errandOf_56 : decode cX10_errandOf 56 = .ok (.ireturn, 1) := by decide +kernel
theorem dX10_newWare_0 : decode cX10_newWare 0 = .ok (.aload_n 0, 1) := by decide +kernel
theorem dX10_newWare_1 : decode cX10_newWare 1 = .ok (.getfield 9, 3) := by decide +kernel
theorem dX10_newWare_4 : decode cX10_newWare 4 = .ok (.bipush 44, 2) := by decide +kernel
theorem dX10_newWare_6 : decode cX10_newWare 6 = .ok (.iaload, 1) := by decide +kernel
theorem dX10_newWare_7 : decode cX10_newWare 7 = .ok (.istore_n 2, 1) := by decide +kernel
theorem dX10_newWare_8 : decode cX10_newWare 8 = .ok (.aload_n 0, 1) := by decide +kernel
theorem dX10_newWare_9 : decode cX10_newWare 9 = .ok (.getfield 9, 3) := by decide +kernel
theorem dX10_newWare_12 : decode cX10_newWare 12 = .ok (.iload_n 2, 1) := by decide +kernel
theorem dX10_newWare_13 : decode cX10_newWare 13 = .ok (.iconst 0, 1) := by decide +kernel
theorem dX10_newWare_14 : decode cX10_newWare 14 = .ok (.invokestatic 161, 3) := by decide +kernel
theorem dX10_newWare_17 : decode cX10_newWare 17 = .ok (.iload_n 1, 1) := by decide +kernel
theorem dX10_newWare_18 : decode cX10_newWare 18 = .ok (.iastore, 1) := by decide +kernel
theorem dX10_newWare_19 : decode cX10_newWare 19 = .ok (.aload_n 0, 1) := by decide +kernel
theorem dX10_newWare_20 : decode cX10_newWare 20 = .ok (.getfield 9, 3) := by decide +kernel
theorem dX10_newWare_23 : decode cX10_newWare 23 = .ok (.iload_n 2, 1) := by decide +kernel
theorem dX10_newWare_24 : decode cX10_newWare 24 = .ok (.iconst 1, 1) := by decide +kernel
theorem dX10_newWare_25 : decode cX10_newWare 25 = .ok (.invokestatic 161, 3) := by decide +kernel
theorem dX10_newWare_28 : decode cX10_newWare 28 = .ok (.iconst (-1), 1) := by decide +kernel
theorem dX10_newWare_29 : decode cX10_newWare 29 = .ok (.iastore, 1) := by decide +kernel
theorem dX10_newWare_30 : decode cX10_newWare 30 = .ok (.aload_n 0, 1) := by decide +kernel
theorem dX10_newWare_31 : decode cX10_newWare 31 = .ok (.getfield 9, 3) := by decide +kernel
theorem dX10_newWare_34 : decode cX10_newWare 34 = .ok (.bipush 44, 2) := by decide +kernel
theorem dX10_newWare_36 : decode cX10_newWare 36 = .ok (.dup2, 1) := by decide +kernel
theorem dX10_newWare_37 : decode cX10_newWare 37 = .ok (.iaload, 1) := by decide +kernel
theorem dX10_newWare_38 : decode cX10_newWare 38 = .ok (.iconst 1, 1) := by decide +kernel
theorem dX10_newWare_39 : decode cX10_newWare 39 = .ok (.iadd, 1) := by decide +kernel
theorem dX10_newWare_40 : decode cX10_newWare 40 = .ok (.iastore, 1) := by decide +kernel
theorem dX10_newWare_41 : decode cX10_newWare 41 = .ok (.iload_n 2, 1) := by decide +kernel
theorem dX10_newWare_42 : decode cX10_newWare 42 = .ok (.ireturn, 1) := by decide +kernel
theorem dX10_ware_0 : decode cX10_ware 0 = .ok (.iload_n 1, 1) := by decide +kernel
theorem dX10_ware_1 : decode cX10_ware 1 = .ok (.iconst 1, 1) := by decide +kernel
theorem dX10_ware_2 : decode cX10_ware 2 = .ok (.sipush 9999, 3) := by decide +kernel
theorem dX10_ware_5 : decode cX10_ware 5 = .ok (.invokestatic 77, 3) := by decide +kernel
theorem dX10_ware_8 : decode cX10_ware 8 = .ok (.ifCond .ne 10, 3) := by decide +kernel
theorem dX10_ware_11 : decode cX10_ware 11 = .ok (.aload_n 0, 1) := by decide +kernel
theorem dX10_ware_12 : decode cX10_ware 12 = .ok (.ldc 72, 2) := by decide +kernel
theorem dX10_ware_14 : decode cX10_ware 14 = .ok (.invokevirtual 92, 3) := by decide +kernel
theorem dX10_ware_17 : decode cX10_ware 17 = .ok (.ireturn, 1) := by decide +kernel
theorem dX10_ware_18 : decode cX10_ware 18 = .ok (.aload_n 0, 1) := by decide +kernel
theorem dX10_ware_19 : decode cX10_ware 19 = .ok (.getfield 9, 3) := by decide +kernel
theorem dX10_ware_22 : decode cX10_ware 22 = .ok (.bipush 44, 2) := by decide +kernel
theorem dX10_ware_24 : decode cX10_ware 24 = .ok (.iaload, 1) := by decide +kernel
theorem dX10_ware_25 : decode cX10_ware 25 = .ok (.bipush 6, 2) := by decide +kernel
theorem dX10_ware_27 : decode cX10_ware 27 = .ok (.if_icmp .ne 12, 3) := by decide +kernel
theorem dX10_ware_30 : decode cX10_ware 30 = .ok (.aload_n 0, 1) := by decide +kernel
theorem dX10_ware_31 : decode cX10_ware 31 = .ok (.ldc 96, 2) := by decide +kernel
theorem dX10_ware_33 : decode cX10_ware 33 = .ok (.invokevirtual 92, 3) := by decide +kernel
theorem dX10_ware_36 : decode cX10_ware 36 = .ok (.goto 8, 3) := by decide +kernel
theorem dX10_ware_39 : decode cX10_ware 39 = .ok (.aload_n 0, 1) := by decide +kernel
theorem dX10_ware_40 : decode cX10_ware 40 = .ok (.iload_n 1, 1) := by decide +kernel
theorem dX10_ware_41 : decode cX10_ware 41 = .ok (.invokevirtual 164, 3) := by decide +kernel
theorem dX10_ware_44 : decode cX10_ware 44 = .ok (.ireturn, 1) := by decide +kernel
theorem dX10_wareOf_0 : decode cX10_wareOf 0 = .ok (.aload_n 0, 1) := by decide +kernel
theorem dX10_wareOf_1 : decode cX10_wareOf 1 = .ok (.iload_n 1, 1) := by decide +kernel
theorem dX10_wareOf_2 : decode cX10_wareOf 2 = .ok (.invokevirtual 167, 3) := by decide +kernel
theorem dX10_wareOf_5 : decode cX10_wareOf 5 = .ok (.ifCond .eq 25, 3) := by decide +kernel
theorem dX10_wareOf_8 : decode cX10_wareOf 8 = .ok (.iload_n 2, 1) := by decide +kernel
theorem dX10_wareOf_9 : decode cX10_wareOf 9 = .ok (.iconst 0, 1) := by decide +kernel
theorem dX10_wareOf_10 : decode cX10_wareOf 10 = .ok (.iconst 1, 1) := by decide +kernel
theorem dX10_wareOf_11 : decode cX10_wareOf 11 = .ok (.invokestatic 77, 3) := by decide +kernel
theorem dX10_wareOf_14 : decode cX10_wareOf 14 = .ok (.ifCond .eq 16, 3) := by decide +kernel
theorem dX10_wareOf_17 : decode cX10_wareOf 17 = .ok (.aload_n 0, 1) := by decide +kernel
theorem dX10_wareOf_18 : decode cX10_wareOf 18 = .ok (.getfield 9, 3) := by decide +kernel
theorem dX10_wareOf_21 : decode cX10_wareOf 21 = .ok (.iload_n 1, 1) := by decide +kernel
theorem dX10_wareOf_22 : decode cX10_wareOf 22 = .ok (.iload_n 2, 1) := by decide +kernel
theorem dX10_wareOf_23 : decode cX10_wareOf 23 = .ok (.invokestatic 161, 3) := by decide +kernel
theorem dX10_wareOf_26 : decode cX10_wareOf 26 = .ok (.iaload, 1) := by decide +kernel
theorem dX10_wareOf_27 : decode cX10_wareOf 27 = .ok (.goto 9, 3) := by decide +kernel
theorem dX10_wareOf_30 : decode cX10_wareOf 30 = .ok (.aload_n 0, 1) := by decide +kernel
theorem dX10_wareOf_31 : decode cX10_wareOf 31 = .ok (.ldc 72, 2) := by decide +kernel
theorem dX10_wareOf_33 : decode cX10_wareOf 33 = .ok (.invokevirtual 92, 3) := by decide +kernel
theorem dX10_wareOf_36 : decode cX10_wareOf 36 = .ok (.ireturn, 1) := by decide +kernel
theorem dX10_counts_0 : decode cX10_counts 0 = .ok (.aload_n 0, 1) := by decide +kernel
theorem dX10_counts_1 : decode cX10_counts 1 = .ok (.getfield 9, 3) := by decide +kernel
theorem dX10_counts_4 : decode cX10_counts 4 = .ok (.iload_n 2, 1) := by decide +kernel
theorem dX10_counts_5 : decode cX10_counts 5 = .ok (.iload_n 3, 1) := by decide +kernel
theorem dX10_counts_6 : decode cX10_counts 6 = .ok (.invokestatic 144, 3) := by decide +kernel
theorem dX10_counts_9 : decode cX10_counts 9 = .ok (.iaload, 1) := by decide +kernel
theorem dX10_counts_10 : decode cX10_counts 10 = .ok (.istore 4, 2) := by decide +kernel
theorem dX10_counts_12 : decode cX10_counts 12 = .ok (.aload_n 0, 1) := by decide +kernel
theorem dX10_counts_13 : decode cX10_counts 13 = .ok (.getfield 9, 3) := by decide +kernel
theorem dX10_counts_16 : decode cX10_counts 16 = .ok (.iload_n 2, 1) := by decide +kernel
theorem dX10_counts_17 : decode cX10_counts 17 = .ok (.iload_n 3, 1) := by decide +kernel
theorem dX10_counts_18 : decode cX10_counts 18 = .ok (.invokestatic 144, 3) := by decide +kernel
theorem dX10_counts_21 : decode cX10_counts 21 = .ok (.iconst 1, 1) := by decide +kernel
theorem dX10_counts_22 : decode cX10_counts 22 = .ok (.iadd, 1) := by decide +kernel
theorem dX10_counts_23 : decode cX10_counts 23 = .ok (.iaload, 1) := by decide +kernel
theorem dX10_counts_24 : decode cX10_counts 24 = .ok (.iconst 1, 1) := by decide +kernel
theorem dX10_counts_25 : decode cX10_counts 25 = .ok (.if_icmp .ne 7, 3) := by decide +kernel
theorem dX10_counts_28 : decode cX10_counts 28 = .ok (.iconst 1, 1) := by decide +kernel
theorem dX10_counts_29 : decode cX10_counts 29 = .ok (.goto 4, 3) := by decide +kernel
theorem dX10_counts_32 : decode cX10_counts 32 = .ok (.iconst 0, 1) := by decide +kernel
theorem dX10_counts_33 : decode cX10_counts 33 = .ok (.istore 5, 2) := by decide +kernel
theorem dX10_counts_35 : decode cX10_counts 35 = .ok (.iload 5, 2) := by decide +kernel
theorem dX10_counts_37 : decode cX10_counts 37 = .ok (.ifCond .eq 8, 3) := by decide +kernel
theorem dX10_counts_40 : decode cX10_counts 40 = .ok (.iload_n 1, 1) := by decide +kernel
theorem dX10_counts_41 : decode cX10_counts 41 = .ok (.iconst 5, 1) := by decide +kernel
theorem dX10_counts_42 : decode cX10_counts 42 = .ok (.if_icmp .ne 6, 3) := by decide +kernel
theorem dX10_counts_45 : decode cX10_counts 45 = .ok (.iload 4, 2) := by decide +kernel
theorem dX10_counts_47 : decode cX10_counts 47 = .ok (.ireturn, 1) := by decide +kernel
theorem dX10_counts_48 : decode cX10_counts 48 = .ok (.iload_n 1, 1) := by decide +kernel
theorem dX10_counts_49 : decode cX10_counts 49 = .ok (.bipush 6, 2) := by decide +kernel
theorem dX10_counts_51 : decode cX10_counts 51 = .ok (.if_icmp .ne 14, 3) := by decide +kernel
theorem dX10_counts_54 : decode cX10_counts 54 = .ok (.iconst 1, 1) := by decide +kernel
theorem dX10_counts_55 : decode cX10_counts 55 = .ok (.iload 4, 2) := by decide +kernel
theorem dX10_counts_57 : decode cX10_counts 57 = .ok (.iconst 2, 1) := by decide +kernel
theorem dX10_counts_58 : decode cX10_counts 58 = .ok (.idiv, 1) := by decide +kernel
theorem dX10_counts_59 : decode cX10_counts 59 = .ok (.invokestatic 141, 3) := by decide +kernel
theorem dX10_counts_62 : decode cX10_counts 62 = .ok (.goto 7, 3) := by decide +kernel
theorem dX10_counts_65 : decode cX10_counts 65 = .ok (.iconst 2, 1) := by decide +kernel
theorem dX10_counts_66 : decode cX10_counts 66 = .ok (.iload 4, 2) := by decide +kernel
theorem dX10_counts_68 : decode cX10_counts 68 = .ok (.imul, 1) := by decide +kernel
theorem dX10_counts_69 : decode cX10_counts 69 = .ok (.ireturn, 1) := by decide +kernel
theorem dX10_findFar_0 : decode cX10_findFar 0 = .ok (.iconst 0, 1) := by decide +kernel
theorem dX10_findFar_1 : decode cX10_findFar 1 = .ok (.istore_n 2, 1) := by decide +kernel
theorem dX10_findFar_2 : decode cX10_findFar 2 = .ok (.iload_n 2, 1) := by decide +kernel
theorem dX10_findFar_3 : decode cX10_findFar 3 = .ok (.bipush 7, 2) := by decide +kernel
theorem dX10_findFar_5 : decode cX10_findFar 5 = .ok (.if_icmp .ge 68, 3) := by decide +kernel
theorem dX10_findFar_8 : decode cX10_findFar 8 = .ok (.iconst 0, 1) := by decide +kernel
theorem dX10_findFar_9 : decode cX10_findFar 9 = .ok (.istore_n 3, 1) := by decide +kernel
theorem dX10_findFar_10 : decode cX10_findFar 10 = .ok (.iload_n 3, 1) := by decide +kernel
theorem dX10_findFar_11 : decode cX10_findFar 11 = .ok (.bipush 7, 2) := by decide +kernel
theorem dX10_findFar_13 : decode cX10_findFar 13 = .ok (.if_icmp .ge 54, 3) := by decide +kernel
theorem dX10_findFar_16 : decode cX10_findFar 16 = .ok (.aload_n 0, 1) := by decide +kernel
theorem dX10_findFar_17 : decode cX10_findFar 17 = .ok (.getfield 22, 3) := by decide +kernel
theorem dX10_findFar_20 : decode cX10_findFar 20 = .ok (.bipush 7, 2) := by decide +kernel
theorem dX10_findFar_22 : decode cX10_findFar 22 = .ok (.iload_n 2, 1) := by decide +kernel
theorem dX10_findFar_23 : decode cX10_findFar 23 = .ok (.imul, 1) := by decide +kernel
theorem dX10_findFar_24 : decode cX10_findFar 24 = .ok (.iload_n 3, 1) := by decide +kernel
theorem dX10_findFar_25 : decode cX10_findFar 25 = .ok (.iadd, 1) := by decide +kernel
theorem dX10_findFar_26 : decode cX10_findFar 26 = .ok (.iload_n 2, 1) := by decide +kernel
theorem dX10_findFar_27 : decode cX10_findFar 27 = .ok (.iload_n 3, 1) := by decide +kernel
theorem dX10_findFar_28 : decode cX10_findFar 28 = .ok (.if_icmp .ne 7, 3) := by decide +kernel
theorem dX10_findFar_31 : decode cX10_findFar 31 = .ok (.iconst 0, 1) := by decide +kernel
theorem dX10_findFar_32 : decode cX10_findFar 32 = .ok (.goto 28, 3) := by decide +kernel
theorem dX10_findFar_35 : decode cX10_findFar 35 = .ok (.aload_n 0, 1) := by decide +kernel
theorem dX10_findFar_36 : decode cX10_findFar 36 = .ok (.getfield 9, 3) := by decide +kernel
theorem dX10_findFar_39 : decode cX10_findFar 39 = .ok (.iload_n 2, 1) := by decide +kernel
theorem dX10_findFar_40 : decode cX10_findFar 40 = .ok (.iload_n 3, 1) := by decide +kernel
theorem dX10_findFar_41 : decode cX10_findFar 41 = .ok (.invokestatic 144, 3) := by decide +kernel
theorem dX10_findFar_44 : decode cX10_findFar 44 = .ok (.iaload, 1) := by decide +kernel
theorem dX10_findFar_45 : decode cX10_findFar 45 = .ok (.ifCond .ne 8, 3) := by decide +kernel
theorem dX10_findFar_48 : decode cX10_findFar 48 = .ok (.ldc 170, 2) := by decide +kernel
theorem dX10_findFar_50 : decode cX10_findFar 50 = .ok (.goto 10, 3) := by decide +kernel
theorem dX10_findFar_53 : decode cX10_findFar 53 = .ok (.aload_n 0, 1) := by decide +kernel
theorem dX10_findFar_54 : decode cX10_findFar 54 = .ok (.iload_n 1, 1) := by decide +kernel
theorem dX10_findFar_55 : decode cX10_findFar 55 = .ok (.iload_n 2, 1) := by decide +kernel
theorem dX10_findFar_56 : decode cX10_findFar 56 = .ok (.iload_n 3, 1) := by decide +kernel
theorem dX10_findFar_57 : decode cX10_findFar 57 = .ok (.invokevirtual 171, 3) := by decide +kernel
theorem dX10_findFar_60 : decode cX10_findFar 60 = .ok (.iastore, 1) := by decide +kernel
theorem dX10_findFar_61 : decode cX10_findFar 61 = .ok (.iinc 3 1, 3) := by decide +kernel
theorem dX10_findFar_64 : decode cX10_findFar 64 = .ok (.goto (-54), 3) := by decide +kernel
theorem dX10_findFar_67 : decode cX10_findFar 67 = .ok (.iinc 2 1, 3) := by decide +kernel
theorem dX10_findFar_70 : decode cX10_findFar 70 = .ok (.goto (-68), 3) := by decide +kernel
theorem dX10_findFar_73 : decode cX10_findFar 73 = .ok (.iconst 0, 1) := by decide +kernel
theorem dX10_findFar_74 : decode cX10_findFar 74 = .ok (.istore_n 2, 1) := by decide +kernel
theorem dX10_findFar_75 : decode cX10_findFar 75 = .ok (.iload_n 2, 1) := by decide +kernel
theorem dX10_findFar_76 : decode cX10_findFar 76 = .ok (.bipush 7, 2) := by decide +kernel
theorem dX10_findFar_78 : decode cX10_findFar 78 = .ok (.if_icmp .ge 90, 3) := by decide +kernel
theorem dX10_findFar_81 : decode cX10_findFar 81 = .ok (.iconst 0, 1) := by decide +kernel
theorem dX10_findFar_82 : decode cX10_findFar 82 = .ok (.istore_n 3, 1) := by decide +kernel
theorem dX10_findFar_83 : decode cX10_findFar 83 = .ok (.iload_n 3, 1) := by decide +kernel
theorem dX10_findFar_84 : decode cX10_findFar 84 = .ok (.bipush 7, 2) := by decide +kernel
theorem dX10_findFar_86 : decode cX10_findFar 86 = .ok (.if_icmp .ge 76, 3) := by decide +kernel
theorem dX10_findFar_89 : decode cX10_findFar 89 = .ok (.iconst 0, 1) := by decide +kernel
theorem dX10_findFar_90 : decode cX10_findFar 90 = .ok (.istore 4, 2) := by decide +kernel
theorem dX10_findFar_92 : decode cX10_findFar 92 = .ok (.iload 4, 2) := by decide +kernel
theorem dX10_findFar_94 : decode cX10_findFar 94 = .ok (.bipush 7, 2) := by decide +kernel
theorem dX10_findFar_96 : decode cX10_findFar 96 = .ok (.if_icmp .ge 60, 3) := by decide +kernel
theorem dX10_findFar_99 : decode cX10_findFar 99 = .ok (.aload_n 0, 1) := by decide +kernel
theorem dX10_findFar_100 : decode cX10_findFar 100 = .ok (.getfield 22, 3) := by decide +kernel
theorem dX10_findFar_103 : decode cX10_findFar 103 = .ok (.bipush 7, 2) := by decide +kernel
theorem dX10_findFar_105 : decode cX10_findFar 105 = .ok (.iload_n 3, 1) := by decide +kernel
theorem dX10_findFar_106 : decode cX10_findFar 106 = .ok (.imul, 1) := by decide +kernel
theorem dX10_findFar_107 : decode cX10_findFar 107 = .ok (.iload 4, 2) := by decide +kernel
theorem dX10_findFar_109 : decode cX10_findFar 109 = .ok (.iadd, 1) := by decide +kernel
theorem dX10_findFar_110 : decode cX10_findFar 110 = .ok (.aload_n 0, 1) := by decide +kernel
theorem dX10_findFar_111 : decode cX10_findFar 111 = .ok (.getfield 22, 3) := by decide +kernel
theorem dX10_findFar_114 : decode cX10_findFar 114 = .ok (.bipush 7, 2) := by decide +kernel
theorem dX10_findFar_116 : decode cX10_findFar 116 = .ok (.iload_n 3, 1) := by decide +kernel
theorem dX10_findFar_117 : decode cX10_findFar 117 = .ok (.imul, 1) := by decide +kernel
theorem dX10_findFar_118 : decode cX10_findFar 118 = .ok (.iload 4, 2) := by decide +kernel
theorem dX10_findFar_120 : decode cX10_findFar 120 = .ok (.iadd, 1) := by decide +kernel
theorem dX10_findFar_121 : decode cX10_findFar 121 = .ok (.iaload, 1) := by decide +kernel
theorem dX10_findFar_122 : decode cX10_findFar 122 = .ok (.aload_n 0, 1) := by decide +kernel
theorem dX10_findFar_123 : decode cX10_findFar 123 = .ok (.getfield 22, 3) := by decide +kernel
theorem dX10_findFar_126 : decode cX10_findFar 126 = .ok (.bipush 7, 2) := by decide +kernel
theorem dX10_findFar_128 : decode cX10_findFar 128 = .ok (.iload_n 3, 1) := by decide +kernel
theorem dX10_findFar_129 : decode cX10_findFar 129 = .ok (.imul, 1) := by decide +kernel
theorem dX10_findFar_130 : decode cX10_findFar 130 = .ok (.iload_n 2, 1) := by decide +kernel
theorem dX10_findFar_131 : decode cX10_findFar 131 = .ok (.iadd, 1) := by decide +kernel
theorem dX10_findFar_132 : decode cX10_findFar 132 = .ok (.iaload, 1) := by decide +kernel
theorem dX10_findFar_133 : decode cX10_findFar 133 = .ok (.aload_n 0, 1) := by decide +kernel
theorem dX10_findFar_134 : decode cX10_findFar 134 = .ok (.getfield 22, 3) := by decide +kernel
theorem dX10_findFar_137 : decode cX10_findFar 137 = .ok (.bipush 7, 2) := by decide +kernel
theorem dX10_findFar_139 : decode cX10_findFar 139 = .ok (.iload_n 2, 1) := by decide +kernel
theorem dX10_findFar_140 : decode cX10_findFar 140 = .ok (.imul, 1) := by decide +kernel
theorem dX10_findFar_141 : decode cX10_findFar 141 = .ok (.iload 4, 2) := by decide +kernel
theorem dX10_findFar_143 : decode cX10_findFar 143 = .ok (.iadd, 1) := by decide +kernel
theorem dX10_findFar_144 : decode cX10_findFar 144 = .ok (.iaload, 1) := by decide +kernel
theorem dX10_findFar_145 : decode cX10_findFar 145 = .ok (.iadd, 1) := by decide +kernel
theorem dX10_findFar_146 : decode cX10_findFar 146 = .ok (.invokestatic 136, 3) := by decide +kernel
theorem dX10_findFar_149 : decode cX10_findFar 149 = .ok (.iastore, 1) := by decide +kernel
theorem dX10_findFar_150 : decode cX10_findFar 150 = .ok (.iinc 4 1, 3) := by decide +kernel
theorem dX10_findFar_153 : decode cX10_findFar 153 = .ok (.goto (-61), 3) := by decide +kernel
theorem dX10_findFar_156 : decode cX10_findFar 156 = .ok (.iinc 3 1, 3) := by decide +kernel
theorem dX10_findFar_159 : decode cX10_findFar 159 = .ok (.goto (-76), 3) := by decide +kernel
theorem dX10_findFar_162 : decode cX10_findFar 162 = .ok (.iinc 2 1, 3) := by decide +kernel
theorem dX10_findFar_165 : decode cX10_findFar 165 = .ok (.goto (-90), 3) := by decide +kernel
theorem dX10_findFar_168 : decode cX10_findFar 168 = .ok (.return_, 1) := by decide +kernel
theorem dX10_farFor_0 : decode cX10_farFor 0 = .ok (.aload_n 0, 1) := by decide +kernel
theorem dX10_farFor_1 : decode cX10_farFor 1 = .ok (.iload_n 1, 1) := by decide +kernel
theorem dX10_farFor_2 : decode cX10_farFor 2 = .ok (.invokevirtual 174, 3) := by decide +kernel
theorem dX10_farFor_5 : decode cX10_farFor 5 = .ok (.aload_n 0, 1) := by decide +kernel
theorem dX10_farFor_6 : decode cX10_farFor 6 = .ok (.getfield 22, 3) := by decide +kernel
theorem dX10_farFor_9 : decode cX10_farFor 9 = .ok (.bipush 7, 2) := by decide +kernel
theorem dX10_farFor_11 : decode cX10_farFor 11 = .ok (.iload_n 2, 1) := by decide +kernel
theorem dX10_farFor_12 : decode cX10_farFor 12 = .ok (.imul, 1) := by decide +kernel
theorem dX10_farFor_13 : decode cX10_farFor 13 = .ok (.iload_n 3, 1) := by decide +kernel
theorem dX10_farFor_14 : decode cX10_farFor 14 = .ok (.iadd, 1) := by decide +kernel
theorem dX10_farFor_15 : decode cX10_farFor 15 = .ok (.iaload, 1) := by decide +kernel
theorem dX10_farFor_16 : decode cX10_farFor 16 = .ok (.ireturn, 1) := by decide +kernel
theorem dX10_far_0 : decode cX10_far 0 = .ok (.aload_n 0, 1) := by decide +kernel
theorem dX10_far_1 : decode cX10_far 1 = .ok (.iload_n 1, 1) := by decide +kernel
theorem dX10_far_2 : decode cX10_far 2 = .ok (.invokevirtual 117, 3) := by decide +kernel
theorem dX10_far_5 : decode cX10_far 5 = .ok (.ifCond .eq 17, 3) := by decide +kernel
theorem dX10_far_8 : decode cX10_far 8 = .ok (.iload_n 2, 1) := by decide +kernel
theorem dX10_far_9 : decode cX10_far 9 = .ok (.invokestatic 129, 3) := by decide +kernel
theorem dX10_far_12 : decode cX10_far 12 = .ok (.ifCond .eq 10, 3) := by decide +kernel
theorem dX10_far_15 : decode cX10_far 15 = .ok (.iload_n 3, 1) := by decide +kernel
theorem dX10_far_16 : decode cX10_far 16 = .ok (.invokestatic 129, 3) := by decide +kernel
theorem dX10_far_19 : decode cX10_far 19 = .ok (.ifCond .ne 10, 3) := by decide +kernel
theorem dX10_far_22 : decode cX10_far 22 = .ok (.aload_n 0, 1) := by decide +kernel
theorem dX10_far_23 : decode cX10_far 23 = .ok (.ldc 72, 2) := by decide +kernel
theorem dX10_far_25 : decode cX10_far 25 = .ok (.invokevirtual 92, 3) := by decide +kernel
theorem dX10_far_28 : decode cX10_far 28 = .ok (.ireturn, 1) := by decide +kernel
theorem dX10_far_29 : decode cX10_far 29 = .ok (.aload_n 0, 1) := by decide +kernel
theorem dX10_far_30 : decode cX10_far 30 = .ok (.aload_n 0, 1) := by decide +kernel
theorem dX10_far_31 : decode cX10_far 31 = .ok (.iload_n 1, 1) := by decide +kernel
theorem dX10_far_32 : decode cX10_far 32 = .ok (.iconst 0, 1) := by decide +kernel
theorem dX10_far_33 : decode cX10_far 33 = .ok (.invokevirtual 104, 3) := by decide +kernel
theorem dX10_far_36 : decode cX10_far 36 = .ok (.iload_n 2, 1) := by decide +kernel
theorem dX10_far_37 : decode cX10_far 37 = .ok (.iload_n 3, 1) := by decide +kernel
theorem dX10_far_38 : decode cX10_far 38 = .ok (.invokevirtual 178, 3) := by decide +kernel
theorem dX10_far_41 : decode cX10_far 41 = .ok (.istore 4, 2) := by decide +kernel
theorem dX10_far_43 : decode cX10_far 43 = .ok (.iload 4, 2) := by decide +kernel
theorem dX10_far_45 : decode cX10_far 45 = .ok (.ldc 170, 2) := by decide +kernel
theorem dX10_far_47 : decode cX10_far 47 = .ok (.if_icmp .lt 12, 3) := by decide +kernel
theorem dX10_far_50 : decode cX10_far 50 = .ok (.aload_n 0, 1) := by decide +kernel
theorem dX10_far_51 : decode cX10_far 51 = .ok (.ldc 160, 2) := by decide +kernel
theorem dX10_far_53 : decode cX10_far 53 = .ok (.invokevirtual 92, 3) := by decide +kernel
theorem dX10_far_56 : decode cX10_far 56 = .ok (.goto 5, 3) := by decide +kernel
theorem dX10_far_59 : decode cX10_far 59 = .ok (.iload 4, 2) := by decide +kernel
theorem dX10_far_61 : decode cX10_far 61 = .ok (.ireturn, 1) := by decide +kernel
theorem dX10_worthOf_0 : decode cX10_worthOf 0 = .ok (.aload_n 0, 1) := by decide +kernel
theorem dX10_worthOf_1 : decode cX10_worthOf 1 = .ok (.iconst 0, 1) := by decide +kernel
theorem dX10_worthOf_2 : decode cX10_worthOf 2 = .ok (.aload_n 0, 1) := by decide +kernel
theorem dX10_worthOf_3 : decode cX10_worthOf 3 = .ok (.iload_n 1, 1) := by decide +kernel
theorem dX10_worthOf_4 : decode cX10_worthOf 4 = .ok (.iconst 1, 1) := by decide +kernel
theorem dX10_worthOf_5 : decode cX10_worthOf 5 = .ok (.invokevirtual 111, 3) := by decide +kernel
theorem dX10_worthOf_8 : decode cX10_worthOf 8 = .ok (.aload_n 0, 1) := by decide +kernel
theorem dX10_worthOf_9 : decode cX10_worthOf 9 = .ok (.iload_n 1, 1) := by decide +kernel
theorem dX10_worthOf_10 : decode cX10_worthOf 10 = .ok (.iconst 2, 1) := by decide +kernel
theorem dX10_worthOf_11 : decode cX10_worthOf 11 = .ok (.invokevirtual 111, 3) := by decide +kernel
theorem dX10_worthOf_14 : decode cX10_worthOf 14 = .ok (.invokevirtual 178, 3) := by decide +kernel
theorem dX10_worthOf_17 : decode cX10_worthOf 17 = .ok (.istore_n 2, 1) := by decide +kernel
theorem dX10_worthOf_18 : decode cX10_worthOf 18 = .ok (.iload_n 2, 1) := by decide +kernel
theorem dX10_worthOf_19 : decode cX10_worthOf 19 = .ok (.ldc 170, 2) := by decide +kernel
theorem dX10_worthOf_21 : decode cX10_worthOf 21 = .ok (.if_icmp .lt 7, 3) := by decide +kernel
theorem dX10_worthOf_24 : decode cX10_worthOf 24 = .ok (.iconst (-1), 1) := by decide +kernel
theorem dX10_worthOf_25 : decode cX10_worthOf 25 = .ok (.goto 11, 3) := by decide +kernel
theorem dX10_worthOf_28 : decode cX10_worthOf 28 = .ok (.aload_n 0, 1) := by decide +kernel
theorem dX10_worthOf_29 : decode cX10_worthOf 29 = .ok (.iload_n 1, 1) := by decide +kernel
theorem dX10_worthOf_30 : decode cX10_worthOf 30 = .ok (.iconst 0, 1) := by decide +kernel
theorem dX10_worthOf_31 : decode cX10_worthOf 31 = .ok (.invokevirtual 111, 3) := by decide +kernel
theorem dX10_worthOf_34 : decode cX10_worthOf 34 = .ok (.iload_n 2, 1) := by decide +kernel
theorem dX10_worthOf_35 : decode cX10_worthOf 35 = .ok (.imul, 1) := by decide +kernel
theorem dX10_worthOf_36 : decode cX10_worthOf 36 = .ok (.ireturn, 1) := by decide +kernel
theorem dX10_first_0 : decode cX10_first 0 = .ok (.aload_n 0, 1) := by decide +kernel
theorem dX10_first_1 : decode cX10_first 1 = .ok (.iload_n 1, 1) := by decide +kernel
theorem dX10_first_2 : decode cX10_first 2 = .ok (.invokevirtual 117, 3) := by decide +kernel
theorem dX10_first_5 : decode cX10_first 5 = .ok (.ifCond .eq 10, 3) := by decide +kernel
theorem dX10_first_8 : decode cX10_first 8 = .ok (.iload_n 2, 1) := by decide +kernel
theorem dX10_first_9 : decode cX10_first 9 = .ok (.invokestatic 129, 3) := by decide +kernel
theorem dX10_first_12 : decode cX10_first 12 = .ok (.ifCond .ne 10, 3) := by decide +kernel
theorem dX10_first_15 : decode cX10_first 15 = .ok (.aload_n 0, 1) := by decide +kernel
theorem dX10_first_16 : decode cX10_first 16 = .ok (.ldc 72, 2) := by decide +kernel
theorem dX10_first_18 : decode cX10_first 18 = .ok (.invokevirtual 92, 3) := by decide +kernel
theorem dX10_first_21 : decode cX10_first 21 = .ok (.ireturn, 1) := by decide +kernel
theorem dX10_first_22 : decode cX10_first 22 = .ok (.aload_n 0, 1) := by decide +kernel
theorem dX10_first_23 : decode cX10_first 23 = .ok (.iload_n 1, 1) := by decide +kernel
theorem dX10_first_24 : decode cX10_first 24 = .ok (.iconst 1, 1) := by decide +kernel
theorem dX10_first_25 : decode cX10_first 25 = .ok (.invokevirtual 104, 3) := by decide +kernel
theorem dX10_first_28 : decode cX10_first 28 = .ok (.istore_n 3, 1) := by decide +kernel
theorem dX10_first_29 : decode cX10_first 29 = .ok (.aload_n 0, 1) := by decide +kernel
theorem dX10_first_30 : decode cX10_first 30 = .ok (.iload_n 1, 1) := by decide +kernel
theorem dX10_first_31 : decode cX10_first 31 = .ok (.iconst 0, 1) := by decide +kernel
theorem dX10_first_32 : decode cX10_first 32 = .ok (.invokevirtual 104, 3) := by decide +kernel
theorem dX10_first_35 : decode cX10_first 35 = .ok (.istore 4, 2) := by decide +kernel
theorem dX10_first_37 : decode cX10_first 37 = .ok (.aload_n 0, 1) := by decide +kernel
theorem dX10_first_38 : decode cX10_first 38 = .ok (.iload 4, 2) := by decide +kernel
theorem dX10_first_40 : decode cX10_first 40 = .ok (.iload_n 3, 1) := by decide +kernel
theorem dX10_first_41 : decode cX10_first 41 = .ok (.iload_n 2, 1) := by decide +kernel
theorem dX10_first_42 : decode cX10_first 42 = .ok (.invokevirtual 178, 3) := by decide +kernel
theorem dX10_first_45 : decode cX10_first 45 = .ok (.istore 5, 2) := by decide +kernel
theorem dX10_first_47 : decode cX10_first 47 = .ok (.iload 5, 2) := by decide +kernel
theorem dX10_first_49 : decode cX10_first 49 = .ok (.ldc 170, 2) := by decide +kernel
theorem dX10_first_51 : decode cX10_first 51 = .ok (.if_icmp .lt 10, 3) := by decide +kernel
theorem dX10_first_54 : decode cX10_first 54 = .ok (.aload_n 0, 1) := by decide +kernel
theorem dX10_first_55 : decode cX10_first 55 = .ok (.ldc 160, 2) := by decide +kernel
theorem dX10_first_57 : decode cX10_first 57 = .ok (.invokevirtual 92, 3) := by decide +kernel
theorem dX10_first_60 : decode cX10_first 60 = .ok (.ireturn, 1) := by decide +kernel
theorem dX10_first_61 : decode cX10_first 61 = .ok (.iload_n 3, 1) := by decide +kernel
theorem dX10_first_62 : decode cX10_first 62 = .ok (.iload_n 2, 1) := by decide +kernel
theorem dX10_first_63 : decode cX10_first 63 = .ok (.if_icmp .ne 7, 3) := by decide +kernel
theorem dX10_first_66 : decode cX10_first 66 = .ok (.iload_n 2, 1) := by decide +kernel
theorem dX10_first_67 : decode cX10_first 67 = .ok (.goto 4, 3) := by decide +kernel
theorem dX10_first_70 : decode cX10_first 70 = .ok (.iconst (-1), 1) := by decide +kernel
theorem dX10_first_71 : decode cX10_first 71 = .ok (.istore 6, 2) := by decide +kernel
theorem dX10_first_73 : decode cX10_first 73 = .ok (.iconst 0, 1) := by decide +kernel
theorem dX10_first_74 : decode cX10_first 74 = .ok (.istore 7, 2) := by decide +kernel
theorem dX10_first_76 : decode cX10_first 76 = .ok (.iload 7, 2) := by decide +kernel
theorem dX10_first_78 : decode cX10_first 78 = .ok (.bipush 7, 2) := by decide +kernel
theorem dX10_first_80 : decode cX10_first 80 = .ok (.if_icmp .ge 82, 3) := by decide +kernel
theorem dX10_first_83 : decode cX10_first 83 = .ok (.iload 6, 2) := by decide +kernel
theorem dX10_first_85 : decode cX10_first 85 = .ok (.ifCond .ge 77, 3) := by decide +kernel
theorem dX10_first_88 : decode cX10_first 88 = .ok (.iload 7, 2) := by decide +kernel
theorem dX10_first_90 : decode cX10_first 90 = .ok (.iload_n 3, 1) := by decide +kernel
theorem dX10_first_91 : decode cX10_first 91 = .ok (.if_icmp .eq 21, 3) := by decide +kernel
theorem dX10_first_94 : decode cX10_first 94 = .ok (.aload_n 0, 1) := by decide +kernel
theorem dX10_first_95 : decode cX10_first 95 = .ok (.getfield 9, 3) := by decide +kernel
theorem dX10_first_98 : decode cX10_first 98 = .ok (.iload 7, 2) := by decide +kernel
theorem dX10_first_100 : decode cX10_first 100 = .ok (.iload_n 3, 1) := by decide +kernel
theorem dX10_first_101 : decode cX10_first 101 = .ok (.invokestatic 144, 3) := by decide +kernel
theorem dX10_first_104 : decode cX10_first 104 = .ok (.iaload, 1) := by decide +kernel
theorem dX10_first_105 : decode cX10_first 105 = .ok (.ifCond .le 7, 3) := by decide +kernel
theorem dX10_first_108 : decode cX10_first 108 = .ok (.iconst 1, 1) := by decide +kernel
theorem dX10_first_109 : decode cX10_first 109 = .ok (.goto 4, 3) := by decide +kernel
theorem dX10_first_112 : decode cX10_first 112 = .ok (.iconst 0, 1) := by decide +kernel
theorem dX10_first_113 : decode cX10_first 113 = .ok (.istore 8, 2) := by decide +kernel
theorem dX10_first_115 : decode cX10_first 115 = .ok (.iload 8, 2) := by decide +kernel
theorem dX10_first_117 : decode cX10_first 117 = .ok (.ifCond .eq 35, 3) := by decide +kernel
theorem dX10_first_120 : decode cX10_first 120 = .ok (.aload_n 0, 1) := by decide +kernel
theorem dX10_first_121 : decode cX10_first 121 = .ok (.iload 4, 2) := by decide +kernel
theorem dX10_first_123 : decode cX10_first 123 = .ok (.iload_n 3, 1) := by decide +kernel
theorem dX10_first_124 : decode cX10_first 124 = .ok (.iload 7, 2) := by decide +kernel
theorem dX10_first_126 : decode cX10_first 126 = .ok (.invokevirtual 171, 3) := by decide +kernel
theorem dX10_first_129 : decode cX10_first 129 = .ok (.aload_n 0, 1) := by decide +kernel
theorem dX10_first_130 : decode cX10_first 130 = .ok (.getfield 22, 3) := by decide +kernel
theorem dX10_first_133 : decode cX10_first 133 = .ok (.bipush 7, 2) := by decide +kernel
theorem dX10_first_135 : decode cX10_first 135 = .ok (.iload 7, 2) := by decide +kernel
theorem dX10_first_137 : decode cX10_first 137 = .ok (.imul, 1) := by decide +kernel
theorem dX10_first_138 : decode cX10_first 138 = .ok (.iload_n 2, 1) := by decide +kernel
theorem dX10_first_139 : decode cX10_first 139 = .ok (.iadd, 1) := by decide +kernel
theorem dX10_first_140 : decode cX10_first 140 = .ok (.iaload, 1) := by decide +kernel
theorem dX10_first_141 : decode cX10_first 141 = .ok (.iadd, 1) := by decide +kernel
theorem dX10_first_142 : decode cX10_first 142 = .ok (.iload 5, 2) := by decide +kernel
theorem dX10_first_144 : decode cX10_first 144 = .ok (.if_icmp .ne 8, 3) := by decide +kernel
theorem dX10_first_147 : decode cX10_first 147 = .ok (.iload 7, 2) := by decide +kernel
theorem dX10_first_149 : decode cX10_first 149 = .ok (.goto 5, 3) := by decide +kernel
theorem dX10_first_152 : decode cX10_first 152 = .ok (.iload 6, 2) := by decide +kernel
theorem dX10_first_154 : decode cX10_first 154 = .ok (.istore 6, 2) := by decide +kernel
theorem dX10_first_156 : decode cX10_first 156 = .ok (.iinc 7 1, 3) := by decide +kernel
theorem dX10_first_159 : decode cX10_first 159 = .ok (.goto (-83), 3) := by decide +kernel
theorem dX10_first_162 : decode cX10_first 162 = .ok (.iload 6, 2) := by decide +kernel
theorem dX10_first_164 : decode cX10_first 164 = .ok (.ireturn, 1) := by decide +kernel
theorem dX10_liesAt_0 : decode cX10_liesAt 0 = .ok (.aload_n 0, 1) := by decide +kernel
theorem dX10_liesAt_1 : decode cX10_liesAt 1 = .ok (.iload_n 1, 1) := by decide +kernel
theorem dX10_liesAt_2 : decode cX10_liesAt 2 = .ok (.iconst 3, 1) := by decide +kernel
theorem dX10_liesAt_3 : decode cX10_liesAt 3 = .ok (.invokevirtual 111, 3) := by decide +kernel
theorem dX10_liesAt_6 : decode cX10_liesAt 6 = .ok (.ifCond .ne 17, 3) := by decide +kernel
theorem dX10_liesAt_9 : decode cX10_liesAt 9 = .ok (.aload_n 0, 1) := by decide +kernel
theorem dX10_liesAt_10 : decode cX10_liesAt 10 = .ok (.iload_n 1, 1) := by decide +kernel
theorem dX10_liesAt_11 : decode cX10_liesAt 11 = .ok (.iconst 1, 1) := by decide +kernel
theorem dX10_liesAt_12 : decode cX10_liesAt 12 = .ok (.invokevirtual 111, 3) := by decide +kernel
theorem dX10_liesAt_15 : decode cX10_liesAt 15 = .ok (.iload_n 2, 1) := by decide +kernel
theorem dX10_liesAt_16 : decode cX10_liesAt 16 = .ok (.if_icmp .ne 7, 3) := by decide +kernel
theorem dX10_liesAt_19 : decode cX10_liesAt 19 = .ok (.iconst 1, 1) := by decide +kernel
theorem dX10_liesAt_20 : decode cX10_liesAt 20 = .ok (.goto 4, 3) := by decide +kernel
theorem dX10_liesAt_23 : decode cX10_liesAt 23 = .ok (.iconst 0, 1) := by decide +kernel
theorem dX10_liesAt_24 : decode cX10_liesAt 24 = .ok (.ireturn, 1) := by decide +kernel
theorem dX10_fitsTo_0 : decode cX10_fitsTo 0 = .ok (.aload_n 0, 1) := by decide +kernel
theorem dX10_fitsTo_1 : decode cX10_fitsTo 1 = .ok (.aload_n 0, 1) := by decide +kernel
theorem dX10_fitsTo_2 : decode cX10_fitsTo 2 = .ok (.iload_n 1, 1) := by decide +kernel
theorem dX10_fitsTo_3 : decode cX10_fitsTo 3 = .ok (.invokevirtual 123, 3) := by decide +kernel
theorem dX10_fitsTo_6 : decode cX10_fitsTo 6 = .ok (.invokevirtual 126, 3) := by decide +kernel
theorem dX10_fitsTo_9 : decode cX10_fitsTo 9 = .ok (.aload_n 0, 1) := by decide +kernel
theorem dX10_fitsTo_10 : decode cX10_fitsTo 10 = .ok (.iload_n 2, 1) := by decide +kernel
theorem dX10_fitsTo_11 : decode cX10_fitsTo 11 = .ok (.iconst 0, 1) := by decide +kernel
theorem dX10_fitsTo_12 : decode cX10_fitsTo 12 = .ok (.invokevirtual 111, 3) := by decide +kernel
theorem dX10_fitsTo_15 : decode cX10_fitsTo 15 = .ok (.iadd, 1) := by decide +kernel
theorem dX10_fitsTo_16 : decode cX10_fitsTo 16 = .ok (.aload_n 0, 1) := by decide +kernel
theorem dX10_fitsTo_17 : decode cX10_fitsTo 17 = .ok (.iload_n 1, 1) := by decide +kernel
theorem dX10_fitsTo_18 : decode cX10_fitsTo 18 = .ok (.invokevirtual 120, 3) := by decide +kernel
theorem dX10_fitsTo_21 : decode cX10_fitsTo 21 = .ok (.if_icmp .gt 7, 3) := by decide +kernel
theorem dX10_fitsTo_24 : decode cX10_fitsTo 24 = .ok (.iconst 1, 1) := by decide +kernel
theorem dX10_fitsTo_25 : decode cX10_fitsTo 25 = .ok (.goto 4, 3) := by decide +kernel
theorem dX10_fitsTo_28 : decode cX10_fitsTo 28 = .ok (.iconst 0, 1) := by decide +kernel
theorem dX10_fitsTo_29 : decode cX10_fitsTo 29 = .ok (.ireturn, 1) := by decide +kernel
theorem dX10_taken_0 : decode cX10_taken 0 = .ok (.aload_n 0, 1) := by decide +kernel
theorem dX10_taken_1 : decode cX10_taken 1 = .ok (.getfield 9, 3) := by decide +kernel
theorem dX10_taken_4 : decode cX10_taken 4 = .ok (.iload_n 2, 1) := by decide +kernel
theorem dX10_taken_5 : decode cX10_taken 5 = .ok (.iconst 3, 1) := by decide +kernel
theorem dX10_taken_6 : decode cX10_taken 6 = .ok (.invokestatic 85, 3) := by decide +kernel
theorem dX10_taken_9 : decode cX10_taken 9 = .ok (.iconst 1, 1) := by decide +kernel
theorem dX10_taken_10 : decode cX10_taken 10 = .ok (.iastore, 1) := by decide +kernel
theorem dX10_taken_11 : decode cX10_taken 11 = .ok (.aload_n 0, 1) := by decide +kernel
theorem dX10_taken_12 : decode cX10_taken 12 = .ok (.getfield 9, 3) := by decide +kernel
theorem dX10_taken_15 : decode cX10_taken 15 = .ok (.iload_n 2, 1) := by decide +kernel
theorem dX10_taken_16 : decode cX10_taken 16 = .ok (.iconst 4, 1) := by decide +kernel
theorem dX10_taken_17 : decode cX10_taken 17 = .ok (.invokestatic 85, 3) := by decide +kernel
theorem dX10_taken_20 : decode cX10_taken 20 = .ok (.iload_n 1, 1) := by decide +kernel
theorem dX10_taken_21 : decode cX10_taken 21 = .ok (.iastore, 1) := by decide +kernel
theorem dX10_taken_22 : decode cX10_taken 22 = .ok (.return_, 1) := by decide +kernel
theorem dX10_take_0 : decode cX10_take 0 = .ok (.aload_n 0, 1) := by decide +kernel
theorem dX10_take_1 : decode cX10_take 1 = .ok (.iload_n 1, 1) := by decide +kernel
theorem dX10_take_2 : decode cX10_take 2 = .ok (.invokevirtual 117, 3) := by decide +kernel
theorem dX10_take_5 : decode cX10_take 5 = .ok (.ifCond .eq 11, 3) := by decide +kernel
theorem dX10_take_8 : decode cX10_take 8 = .ok (.aload_n 0, 1) := by decide +kernel
theorem dX10_take_9 : decode cX10_take 9 = .ok (.iload_n 2, 1) := by decide +kernel
theorem dX10_take_10 : decode cX10_take 10 = .ok (.invokevirtual 154, 3) := by decide +kernel
theorem dX10_take_13 : decode cX10_take 13 = .ok (.ifCond .ne 10, 3) := by decide +kernel
theorem dX10_take_16 : decode cX10_take 16 = .ok (.aload_n 0, 1) := by decide +kernel
theorem dX10_take_17 : decode cX10_take 17 = .ok (.ldc 72, 2) := by decide +kernel
theorem dX10_take_19 : decode cX10_take 19 = .ok (.invokevirtual 92, 3) := by decide +kernel
theorem dX10_take_22 : decode cX10_take 22 = .ok (.ireturn, 1) := by decide +kernel
theorem dX10_take_23 : decode cX10_take 23 = .ok (.aload_n 0, 1) := by decide +kernel
theorem dX10_take_24 : decode cX10_take 24 = .ok (.iload_n 2, 1) := by decide +kernel
theorem dX10_take_25 : decode cX10_take 25 = .ok (.aload_n 0, 1) := by decide +kernel
theorem dX10_take_26 : decode cX10_take 26 = .ok (.iload_n 1, 1) := by decide +kernel
theorem dX10_take_27 : decode cX10_take 27 = .ok (.iconst 1, 1) := by decide +kernel
theorem dX10_take_28 : decode cX10_take 28 = .ok (.invokevirtual 104, 3) := by decide +kernel
theorem dX10_take_31 : decode cX10_take 31 = .ok (.invokevirtual 181, 3) := by decide +kernel
theorem dX10_take_34 : decode cX10_take 34 = .ok (.ifCond .ne 10, 3) := by decide +kernel
theorem dX10_take_37 : decode cX10_take 37 = .ok (.aload_n 0, 1) := by decide +kernel
theorem dX10_take_38 : decode cX10_take 38 = .ok (.ldc 184, 2) := by decide +kernel
theorem dX10_take_40 : decode cX10_take 40 = .ok (.invokevirtual 92, 3) := by decide +kernel
theorem dX10_take_43 : decode cX10_take 43 = .ok (.ireturn, 1) := by decide +kernel
theorem dX10_take_44 : decode cX10_take 44 = .ok (.aload_n 0, 1) := by decide +kernel
theorem dX10_take_45 : decode cX10_take 45 = .ok (.iload_n 1, 1) := by decide +kernel
theorem dX10_take_46 : decode cX10_take 46 = .ok (.iload_n 2, 1) := by decide +kernel
theorem dX10_take_47 : decode cX10_take 47 = .ok (.invokevirtual 185, 3) := by decide +kernel
theorem dX10_take_50 : decode cX10_take 50 = .ok (.ifCond .ne 10, 3) := by decide +kernel
theorem dX10_take_53 : decode cX10_take 53 = .ok (.aload_n 0, 1) := by decide +kernel
theorem dX10_take_54 : decode cX10_take 54 = .ok (.ldc 96, 2) := by decide +kernel
theorem dX10_take_56 : decode cX10_take 56 = .ok (.invokevirtual 92, 3) := by decide +kernel
theorem dX10_take_59 : decode cX10_take 59 = .ok (.ireturn, 1) := by decide +kernel
theorem dX10_take_60 : decode cX10_take 60 = .ok (.aload_n 0, 1) := by decide +kernel
theorem dX10_take_61 : decode cX10_take 61 = .ok (.iload_n 1, 1) := by decide +kernel
theorem dX10_take_62 : decode cX10_take 62 = .ok (.iload_n 2, 1) := by decide +kernel
theorem dX10_take_63 : decode cX10_take 63 = .ok (.invokevirtual 188, 3) := by decide +kernel
theorem dX10_take_66 : decode cX10_take 66 = .ok (.aload_n 0, 1) := by decide +kernel
theorem dX10_take_67 : decode cX10_take 67 = .ok (.aload_n 0, 1) := by decide +kernel
theorem dX10_take_68 : decode cX10_take 68 = .ok (.iload_n 1, 1) := by decide +kernel
theorem dX10_take_69 : decode cX10_take 69 = .ok (.invokevirtual 123, 3) := by decide +kernel
theorem dX10_take_72 : decode cX10_take 72 = .ok (.invokevirtual 126, 3) := by decide +kernel
theorem dX10_take_75 : decode cX10_take 75 = .ok (.ireturn, 1) := by decide +kernel
theorem dX10_drop_0 : decode cX10_drop 0 = .ok (.aload_n 0, 1) := by decide +kernel
theorem dX10_drop_1 : decode cX10_drop 1 = .ok (.iload_n 1, 1) := by decide +kernel
theorem dX10_drop_2 : decode cX10_drop 2 = .ok (.invokevirtual 117, 3) := by decide +kernel
theorem dX10_drop_5 : decode cX10_drop 5 = .ok (.ifCond .eq 11, 3) := by decide +kernel
theorem dX10_drop_8 : decode cX10_drop 8 = .ok (.aload_n 0, 1) := by decide +kernel
theorem dX10_drop_9 : decode cX10_drop 9 = .ok (.iload_n 2, 1) := by decide +kernel
theorem dX10_drop_10 : decode cX10_drop 10 = .ok (.invokevirtual 154, 3) := by decide +kernel
theorem dX10_drop_13 : decode cX10_drop 13 = .ok (.ifCond .ne 10, 3) := by decide +kernel
theorem dX10_drop_16 : decode cX10_drop 16 = .ok (.aload_n 0, 1) := by decide +kernel
theorem dX10_drop_17 : decode cX10_drop 17 = .ok (.ldc 72, 2) := by decide +kernel
theorem dX10_drop_19 : decode cX10_drop 19 = .ok (.invokevirtual 92, 3) := by decide +kernel
theorem dX10_drop_22 : decode cX10_drop 22 = .ok (.ireturn, 1) := by decide +kernel
theorem dX10_drop_23 : decode cX10_drop 23 = .ok (.aload_n 0, 1) := by decide +kernel
theorem dX10_drop_24 : decode cX10_drop 24 = .ok (.iload_n 1, 1) := by decide +kernel
theorem dX10_drop_25 : decode cX10_drop 25 = .ok (.invokevirtual 123, 3) := by decide +kernel
theorem dX10_drop_28 : decode cX10_drop 28 = .ok (.iload_n 2, 1) := by decide +kernel
theorem dX10_drop_29 : decode cX10_drop 29 = .ok (.invokestatic 114, 3) := by decide +kernel
theorem dX10_drop_32 : decode cX10_drop 32 = .ok (.ifCond .eq 18, 3) := by decide +kernel
theorem dX10_drop_35 : decode cX10_drop 35 = .ok (.aload_n 0, 1) := by decide +kernel
theorem dX10_drop_36 : decode cX10_drop 36 = .ok (.iload_n 2, 1) := by decide +kernel
theorem dX10_drop_37 : decode cX10_drop 37 = .ok (.iconst 2, 1) := by decide +kernel
theorem dX10_drop_38 : decode cX10_drop 38 = .ok (.invokevirtual 111, 3) := by decide +kernel
theorem dX10_drop_41 : decode cX10_drop 41 = .ok (.aload_n 0, 1) := by decide +kernel
theorem dX10_drop_42 : decode cX10_drop 42 = .ok (.iload_n 1, 1) := by decide +kernel
theorem dX10_drop_43 : decode cX10_drop 43 = .ok (.iconst 1, 1) := by decide +kernel
theorem dX10_drop_44 : decode cX10_drop 44 = .ok (.invokevirtual 104, 3) := by decide +kernel
theorem dX10_drop_47 : decode cX10_drop 47 = .ok (.if_icmp .ne 10, 3) := by decide +kernel
theorem dX10_drop_50 : decode cX10_drop 50 = .ok (.aload_n 0, 1) := by decide +kernel
theorem dX10_drop_51 : decode cX10_drop 51 = .ok (.ldc 184, 2) := by decide +kernel
theorem dX10_drop_53 : decode cX10_drop 53 = .ok (.invokevirtual 92, 3) := by decide +kernel
theorem dX10_drop_56 : decode cX10_drop 56 = .ok (.ireturn, 1) := by decide +kernel
theorem dX10_drop_57 : decode cX10_drop 57 = .ok (.aload_n 0, 1) := by decide +kernel
theorem dX10_drop_58 : decode cX10_drop 58 = .ok (.getfield 9, 3) := by decide +kernel
theorem dX10_drop_61 : decode cX10_drop 61 = .ok (.iload_n 2, 1) := by decide +kernel
theorem dX10_drop_62 : decode cX10_drop 62 = .ok (.iconst 1, 1) := by decide +kernel
theorem dX10_drop_63 : decode cX10_drop 63 = .ok (.invokestatic 85, 3) := by decide +kernel
theorem dX10_drop_66 : decode cX10_drop 66 = .ok (.aload_n 0, 1) := by decide +kernel
theorem dX10_drop_67 : decode cX10_drop 67 = .ok (.iload_n 1, 1) := by decide +kernel
theorem dX10_drop_68 : decode cX10_drop 68 = .ok (.iconst 1, 1) := by decide +kernel
theorem dX10_drop_69 : decode cX10_drop 69 = .ok (.invokevirtual 104, 3) := by decide +kernel
theorem dX10_drop_72 : decode cX10_drop 72 = .ok (.iastore, 1) := by decide +kernel
theorem dX10_drop_73 : decode cX10_drop 73 = .ok (.aload_n 0, 1) := by decide +kernel
theorem dX10_drop_74 : decode cX10_drop 74 = .ok (.getfield 9, 3) := by decide +kernel
theorem dX10_drop_77 : decode cX10_drop 77 = .ok (.iload_n 2, 1) := by decide +kernel
theorem dX10_drop_78 : decode cX10_drop 78 = .ok (.iconst 3, 1) := by decide +kernel
theorem dX10_drop_79 : decode cX10_drop 79 = .ok (.invokestatic 85, 3) := by decide +kernel
theorem dX10_drop_82 : decode cX10_drop 82 = .ok (.iconst 0, 1) := by decide +kernel
theorem dX10_drop_83 : decode cX10_drop 83 = .ok (.iastore, 1) := by decide +kernel
theorem dX10_drop_84 : decode cX10_drop 84 = .ok (.aload_n 0, 1) := by decide +kernel
theorem dX10_drop_85 : decode cX10_drop 85 = .ok (.getfield 9, 3) := by decide +kernel
theorem dX10_drop_88 : decode cX10_drop 88 = .ok (.iload_n 2, 1) := by decide +kernel
theorem dX10_drop_89 : decode cX10_drop 89 = .ok (.iconst 4, 1) := by decide +kernel
theorem dX10_drop_90 : decode cX10_drop 90 = .ok (.invokestatic 85, 3) := by decide +kernel
theorem dX10_drop_93 : decode cX10_drop 93 = .ok (.iconst (-1), 1) := by decide +kernel
theorem dX10_drop_94 : decode cX10_drop 94 = .ok (.iastore, 1) := by decide +kernel
theorem dX10_drop_95 : decode cX10_drop 95 = .ok (.aload_n 0, 1) := by decide +kernel
theorem dX10_drop_96 : decode cX10_drop 96 = .ok (.aload_n 0, 1) := by decide +kernel
theorem dX10_drop_97 : decode cX10_drop 97 = .ok (.iload_n 1, 1) := by decide +kernel
theorem dX10_drop_98 : decode cX10_drop 98 = .ok (.invokevirtual 123, 3) := by decide +kernel
theorem dX10_drop_101 : decode cX10_drop 101 = .ok (.invokevirtual 126, 3) := by decide +kernel
theorem dX10_drop_104 : decode cX10_drop 104 = .ok (.ireturn, 1) := by decide +kernel
theorem dX10_walked_0 : decode cX10_walked 0 = .ok (.aload_n 0, 1) := by decide +kernel
theorem dX10_walked_1 : decode cX10_walked 1 = .ok (.aload_n 0, 1) := by decide +kernel
theorem dX10_walked_2 : decode cX10_walked 2 = .ok (.iload_n 1, 1) := by decide +kernel
theorem dX10_walked_3 : decode cX10_walked 3 = .ok (.iconst 0, 1) := by decide +kernel
theorem dX10_walked_4 : decode cX10_walked 4 = .ok (.invokevirtual 104, 3) := by decide +kernel
theorem dX10_walked_7 : decode cX10_walked 7 = .ok (.aload_n 0, 1) := by decide +kernel
theorem dX10_walked_8 : decode cX10_walked 8 = .ok (.iload_n 1, 1) := by decide +kernel
theorem dX10_walked_9 : decode cX10_walked 9 = .ok (.iconst 1, 1) := by decide +kernel
theorem dX10_walked_10 : decode cX10_walked 10 = .ok (.invokevirtual 104, 3) := by decide +kernel
theorem dX10_walked_13 : decode cX10_walked 13 = .ok (.iload_n 2, 1) := by decide +kernel
theorem dX10_walked_14 : decode cX10_walked 14 = .ok (.invokevirtual 178, 3) := by decide +kernel
theorem dX10_walked_17 : decode cX10_walked 17 = .ok (.istore_n 3, 1) := by decide +kernel
theorem dX10_walked_18 : decode cX10_walked 18 = .ok (.iload_n 3, 1) := by decide +kernel
theorem dX10_walked_19 : decode cX10_walked 19 = .ok (.ldc 170, 2) := by decide +kernel
theorem dX10_walked_21 : decode cX10_walked 21 = .ok (.if_icmp .lt 5, 3) := by decide +kernel
theorem dX10_walked_24 : decode cX10_walked 24 = .ok (.iconst (-1), 1) := by decide +kernel
theorem dX10_walked_25 : decode cX10_walked 25 = .ok (.ireturn, 1) := by decide +kernel
theorem dX10_walked_26 : decode cX10_walked 26 = .ok (.aload_n 0, 1) := by decide +kernel
theorem dX10_walked_27 : decode cX10_walked 27 = .ok (.getfield 9, 3) := by decide +kernel
theorem dX10_walked_30 : decode cX10_walked 30 = .ok (.iload_n 1, 1) := by decide +kernel
theorem dX10_walked_31 : decode cX10_walked 31 = .ok (.iconst 4, 1) := by decide +kernel
theorem dX10_walked_32 : decode cX10_walked 32 = .ok (.invokestatic 81, 3) := by decide +kernel
theorem dX10_walked_35 : decode cX10_walked 35 = .ok (.dup2, 1) := by decide +kernel
theorem dX10_walked_36 : decode cX10_walked 36 = .ok (.iaload, 1) := by decide +kernel
theorem dX10_walked_37 : decode cX10_walked 37 = .ok (.iload_n 3, 1) := by decide +kernel
theorem dX10_walked_38 : decode cX10_walked 38 = .ok (.iadd, 1) := by decide +kernel
theorem dX10_walked_39 : decode cX10_walked 39 = .ok (.iastore, 1) := by decide +kernel
theorem dX10_walked_40 : decode cX10_walked 40 = .ok (.aload_n 0, 1) := by decide +kernel
theorem dX10_walked_41 : decode cX10_walked 41 = .ok (.getfield 9, 3) := by decide +kernel
theorem dX10_walked_44 : decode cX10_walked 44 = .ok (.iload_n 1, 1) := by decide +kernel
theorem dX10_walked_45 : decode cX10_walked 45 = .ok (.iconst 1, 1) := by decide +kernel
theorem dX10_walked_46 : decode cX10_walked 46 = .ok (.invokestatic 81, 3) := by decide +kernel
theorem dX10_walked_49 : decode cX10_walked 49 = .ok (.iload_n 2, 1) := by decide +kernel
theorem dX10_walked_50 : decode cX10_walked 50 = .ok (.iastore, 1) := by decide +kernel
theorem dX10_walked_51 : decode cX10_walked 51 = .ok (.iconst 0, 1) := by decide +kernel
theorem dX10_walked_52 : decode cX10_walked 52 = .ok (.istore 4, 2) := by decide +kernel
theorem dX10_walked_54 : decode cX10_walked 54 = .ok (.iconst 0, 1) := by decide +kernel
theorem dX10_walked_55 : decode cX10_walked 55 = .ok (.istore 5, 2) := by decide +kernel
theorem dX10_walked_57 : decode cX10_walked 57 = .ok (.iload 5, 2) := by decide +kernel
theorem dX10_walked_59 : decode cX10_walked 59 = .ok (.aload_n 0, 1) := by decide +kernel
theorem dX10_walked_60 : decode cX10_walked 60 = .ok (.getfield 9, 3) := by decide +kernel
theorem dX10_walked_63 : decode cX10_walked 63 = .ok (.bipush 43, 2) := by decide +kernel
theorem dX10_walked_65 : decode cX10_walked 65 = .ok (.iaload, 1) := by decide +kernel
theorem dX10_walked_66 : decode cX10_walked 66 = .ok (.if_icmp .ge 93, 3) := by decide +kernel
theorem dX10_walked_69 : decode cX10_walked 69 = .ok (.aload_n 0, 1) := by decide +kernel
theorem dX10_walked_70 : decode cX10_walked 70 = .ok (.iload 5, 2) := by decide +kernel
theorem dX10_walked_72 : decode cX10_walked 72 = .ok (.iconst 3, 1) := by decide +kernel
theorem dX10_walked_73 : decode cX10_walked 73 = .ok (.invokevirtual 111, 3) := by decide +kernel
theorem dX10_walked_76 : decode cX10_walked 76 = .ok (.iconst 1, 1) := by decide +kernel
theorem dX10_walked_77 : decode cX10_walked 77 = .ok (.if_icmp .ne 76, 3) := by decide +kernel
theorem dX10_walked_80 : decode cX10_walked 80 = .ok (.aload_n 0, 1) := by decide +kernel
theorem dX10_walked_81 : decode cX10_walked 81 = .ok (.iload 5, 2) := by decide +kernel
theorem dX10_walked_83 : decode cX10_walked 83 = .ok (.iconst 4, 1) := by decide +kernel
theorem dX10_walked_84 : decode cX10_walked 84 = .ok (.invokevirtual 111, 3) := by decide +kernel
theorem dX10_walked_87 : decode cX10_walked 87 = .ok (.iload_n 1, 1) := by decide +kernel
theorem dX10_walked_88 : decode cX10_walked 88 = .ok (.if_icmp .ne 65, 3) := by decide +kernel
theorem dX10_walked_91 : decode cX10_walked 91 = .ok (.aload_n 0, 1) := by decide +kernel
theorem dX10_walked_92 : decode cX10_walked 92 = .ok (.iload 5, 2) := by decide +kernel
theorem dX10_walked_94 : decode cX10_walked 94 = .ok (.iconst 2, 1) := by decide +kernel
theorem dX10_walked_95 : decode cX10_walked 95 = .ok (.invokevirtual 111, 3) := by decide +kernel
theorem dX10_walked_98 : decode cX10_walked 98 = .ok (.iload_n 2, 1) := by decide +kernel
theorem dX10_walked_99 : decode cX10_walked 99 = .ok (.if_icmp .ne 54, 3) := by decide +kernel
theorem dX10_walked_102 : decode cX10_walked 102 = .ok (.aload_n 0, 1) := by decide +kernel
theorem dX10_walked_103 : decode cX10_walked 103 = .ok (.getfield 9, 3) := by decide +kernel
theorem dX10_walked_106 : decode cX10_walked 106 = .ok (.iload 5, 2) := by decide +kernel
theorem dX10_walked_108 : decode cX10_walked 108 = .ok (.iconst 3, 1) := by decide +kernel
theorem dX10_walked_109 : decode cX10_walked 109 = .ok (.invokestatic 85, 3) := by decide +kernel
theorem dX10_walked_112 : decode cX10_walked 112 = .ok (.iconst 2, 1) := by decide +kernel
theorem dX10_walked_113 : decode cX10_walked 113 = .ok (.iastore, 1) := by decide +kernel
theorem dX10_walked_114 : decode cX10_walked 114 = .ok (.aload_n 0, 1) := by decide +kernel
theorem dX10_walked_115 : decode cX10_walked 115 = .ok (.dup, 1) := by decide +kernel
theorem dX10_walked_116 : decode cX10_walked 116 = .ok (.getfield 192, 3) := by decide +kernel
theorem dX10_walked_119 : decode cX10_walked 119 = .ok (.iconst 1, 1) := by decide +kernel
theorem dX10_walked_120 : decode cX10_walked 120 = .ok (.iadd, 1) := by decide +kernel
theorem dX10_walked_121 : decode cX10_walked 121 = .ok (.putfield 192, 3) := by decide +kernel
theorem dX10_walked_124 : decode cX10_walked 124 = .ok (.aload_n 0, 1) := by decide +kernel
theorem dX10_walked_125 : decode cX10_walked 125 = .ok (.iload 5, 2) := by decide +kernel
theorem dX10_walked_127 : decode cX10_walked 127 = .ok (.invokevirtual 157, 3) := by decide +kernel
theorem dX10_walked_130 : decode cX10_walked 130 = .ok (.istore 6, 2) := by decide +kernel
theorem dX10_walked_132 : decode cX10_walked 132 = .ok (.iload 4, 2) := by decide +kernel
theorem dX10_walked_134 : decode cX10_walked 134 = .ok (.iload 6, 2) := by decide +kernel
theorem dX10_walked_136 : decode cX10_walked 136 = .ok (.ifCond .ge 7, 3) := by decide +kernel
theorem dX10_walked_139 : decode cX10_walked 139 = .ok (.iconst 0, 1) := by decide +kernel
theorem dX10_walked_140 : decode cX10_walked 140 = .ok (.goto 10, 3) := by decide +kernel
theorem dX10_walked_143 : decode cX10_walked 143 = .ok (.aload_n 0, 1) := by decide +kernel
theorem dX10_walked_144 : decode cX10_walked 144 = .ok (.iload_n 1, 1) := by decide +kernel
theorem dX10_walked_145 : decode cX10_walked 145 = .ok (.iload 6, 2) := by decide +kernel
theorem dX10_walked_147 : decode cX10_walked 147 = .ok (.invokevirtual 196, 3) := by decide +kernel
theorem dX10_walked_150 : decode cX10_walked 150 = .ok (.iadd, 1) := by decide +kernel
theorem dX10_walked_151 : decode cX10_walked 151 = .ok (.istore 4, 2) := by decide +kernel
theorem dX10_walked_153 : decode cX10_walked 153 = .ok (.iinc 5 1, 3) := by decide +kernel
theorem dX10_walked_156 : decode cX10_walked 156 = .ok (.goto (-99), 3) := by decide +kernel
theorem dX10_walked_159 : decode cX10_walked 159 = .ok (.aload_n 0, 1) := by decide +kernel
theorem dX10_walked_160 : decode cX10_walked 160 = .ok (.getfield 9, 3) := by decide +kernel
theorem dX10_walked_163 : decode cX10_walked 163 = .ok (.iload_n 1, 1) := by decide +kernel
theorem dX10_walked_164 : decode cX10_walked 164 = .ok (.iconst 3, 1) := by decide +kernel
theorem dX10_walked_165 : decode cX10_walked 165 = .ok (.invokestatic 81, 3) := by decide +kernel
theorem dX10_walked_168 : decode cX10_walked 168 = .ok (.dup2, 1) := by decide +kernel
theorem dX10_walked_169 : decode cX10_walked 169 = .ok (.iaload, 1) := by decide +kernel
theorem dX10_walked_170 : decode cX10_walked 170 = .ok (.iload 4, 2) := by decide +kernel
theorem dX10_walked_172 : decode cX10_walked 172 = .ok (.iadd, 1) := by decide +kernel
theorem dX10_walked_173 : decode cX10_walked 173 = .ok (.iastore, 1) := by decide +kernel
theorem dX10_walked_174 : decode cX10_walked 174 = .ok (.iload 4, 2) := by decide +kernel
theorem dX10_walked_176 : decode cX10_walked 176 = .ok (.ireturn, 1) := by decide +kernel
theorem dX10_walk_0 : decode cX10_walk 0 = .ok (.aload_n 0, 1) := by decide +kernel
theorem dX10_walk_1 : decode cX10_walk 1 = .ok (.iload_n 1, 1) := by decide +kernel
theorem dX10_walk_2 : decode cX10_walk 2 = .ok (.invokevirtual 117, 3) := by decide +kernel
theorem dX10_walk_5 : decode cX10_walk 5 = .ok (.ifCond .eq 10, 3) := by decide +kernel
theorem dX10_walk_8 : decode cX10_walk 8 = .ok (.iload_n 2, 1) := by decide +kernel
theorem dX10_walk_9 : decode cX10_walk 9 = .ok (.invokestatic 129, 3) := by decide +kernel
theorem dX10_walk_12 : decode cX10_walk 12 = .ok (.ifCond .ne 10, 3) := by decide +kernel
theorem dX10_walk_15 : decode cX10_walk 15 = .ok (.aload_n 0, 1) := by decide +kernel
theorem dX10_walk_16 : decode cX10_walk 16 = .ok (.ldc 72, 2) := by decide +kernel
theorem dX10_walk_18 : decode cX10_walk 18 = .ok (.invokevirtual 92, 3) := by decide +kernel
theorem dX10_walk_21 : decode cX10_walk 21 = .ok (.ireturn, 1) := by decide +kernel
theorem dX10_walk_22 : decode cX10_walk 22 = .ok (.aload_n 0, 1) := by decide +kernel
theorem dX10_walk_23 : decode cX10_walk 23 = .ok (.iload_n 1, 1) := by decide +kernel
theorem dX10_walk_24 : decode cX10_walk 24 = .ok (.iload_n 2, 1) := by decide +kernel
theorem dX10_walk_25 : decode cX10_walk 25 = .ok (.invokevirtual 199, 3) := by decide +kernel
theorem dX10_walk_28 : decode cX10_walk 28 = .ok (.istore_n 3, 1) := by decide +kernel
theorem dX10_walk_29 : decode cX10_walk 29 = .ok (.iload_n 3, 1) := by decide +kernel
theorem dX10_walk_30 : decode cX10_walk 30 = .ok (.ifCond .ge 12, 3) := by decide +kernel
theorem dX10_walk_33 : decode cX10_walk 33 = .ok (.aload_n 0, 1) := by decide +kernel
theorem dX10_walk_34 : decode cX10_walk 34 = .ok (.ldc 160, 2) := by decide +kernel
theorem dX10_walk_36 : decode cX10_walk 36 = .ok (.invokevirtual 92, 3) := by decide +kernel
theorem dX10_walk_39 : decode cX10_walk 39 = .ok (.goto 4, 3) := by decide +kernel
theorem dX10_walk_42 : decode cX10_walk 42 = .ok (.iload_n 3, 1) := by decide +kernel
theorem dX10_walk_43 : decode cX10_walk 43 = .ok (.ireturn, 1) := by decide +kernel
theorem dX10_buy_0 : decode cX10_buy 0 = .ok (.aload_n 0, 1) := by decide +kernel
theorem dX10_buy_1 : decode cX10_buy 1 = .ok (.iload_n 1, 1) := by decide +kernel
theorem dX10_buy_2 : decode cX10_buy 2 = .ok (.invokevirtual 117, 3) := by decide +kernel
theorem dX10_buy_5 : decode cX10_buy 5 = .ok (.ifCond .eq 11, 3) := by decide +kernel
theorem dX10_buy_8 : decode cX10_buy 8 = .ok (.aload_n 0, 1) := by decide +kernel
theorem dX10_buy_9 : decode cX10_buy 9 = .ok (.iload_n 2, 1) := by decide +kernel
theorem dX10_buy_10 : decode cX10_buy 10 = .ok (.invokevirtual 167, 3) := by decide +kernel
theorem dX10_buy_13 : decode cX10_buy 13 = .ok (.ifCond .ne 10, 3) := by decide +kernel
theorem dX10_buy_16 : decode cX10_buy 16 = .ok (.aload_n 0, 1) := by decide +kernel
theorem dX10_buy_17 : decode cX10_buy 17 = .ok (.ldc 72, 2) := by decide +kernel
theorem dX10_buy_19 : decode cX10_buy 19 = .ok (.invokevirtual 92, 3) := by decide +kernel
theorem dX10_buy_22 : decode cX10_buy 22 = .ok (.ireturn, 1) := by decide +kernel
theorem dX10_buy_23 : decode cX10_buy 23 = .ok (.aload_n 0, 1) := by decide +kernel
theorem dX10_buy_24 : decode cX10_buy 24 = .ok (.getfield 9, 3) := by decide +kernel
theorem dX10_buy_27 : decode cX10_buy 27 = .ok (.iload_n 2, 1) := by decide +kernel
theorem dX10_buy_28 : decode cX10_buy 28 = .ok (.iconst 1, 1) := by decide +kernel
theorem dX10_buy_29 : decode cX10_buy 29 = .ok (.invokestatic 161, 3) := by decide +kernel
theorem dX10_buy_32 : decode cX10_buy 32 = .ok (.iaload, 1) := by decide +kernel
theorem dX10_buy_33 : decode cX10_buy 33 = .ok (.ifCond .ge 22, 3) := by decide +kernel
theorem dX10_buy_36 : decode cX10_buy 36 = .ok (.aload_n 0, 1) := by decide +kernel
theorem dX10_buy_37 : decode cX10_buy 37 = .ok (.iload_n 1, 1) := by decide +kernel
theorem dX10_buy_38 : decode cX10_buy 38 = .ok (.iconst 3, 1) := by decide +kernel
theorem dX10_buy_39 : decode cX10_buy 39 = .ok (.invokevirtual 104, 3) := by decide +kernel
theorem dX10_buy_42 : decode cX10_buy 42 = .ok (.aload_n 0, 1) := by decide +kernel
theorem dX10_buy_43 : decode cX10_buy 43 = .ok (.getfield 9, 3) := by decide +kernel
theorem dX10_buy_46 : decode cX10_buy 46 = .ok (.iload_n 2, 1) := by decide +kernel
theorem dX10_buy_47 : decode cX10_buy 47 = .ok (.iconst 0, 1) := by decide +kernel
theorem dX10_buy_48 : decode cX10_buy 48 = .ok (.invokestatic 161, 3) := by decide +kernel
theorem dX10_buy_51 : decode cX10_buy 51 = .ok (.iaload, 1) := by decide +kernel
theorem dX10_buy_52 : decode cX10_buy 52 = .ok (.if_icmp .ge 10, 3) := by decide +kernel
theorem dX10_buy_55 : decode cX10_buy 55 = .ok (.aload_n 0, 1) := by decide +kernel
theorem dX10_buy_56 : decode cX10_buy 56 = .ok (.ldc 184, 2) := by decide +kernel
theorem dX10_buy_58 : decode cX10_buy 58 = .ok (.invokevirtual 92, 3) := by decide +kernel
theorem dX10_buy_61 : decode cX10_buy 61 = .ok (.ireturn, 1) := by decide +kernel
theorem dX10_buy_62 : decode cX10_buy 62 = .ok (.aload_n 0, 1) := by decide +kernel
theorem dX10_buy_63 : decode cX10_buy 63 = .ok (.getfield 9, 3) := by decide +kernel
theorem dX10_buy_66 : decode cX10_buy 66 = .ok (.iload_n 2, 1) := by decide +kernel
theorem dX10_buy_67 : decode cX10_buy 67 = .ok (.iconst 1, 1) := by decide +kernel
theorem dX10_buy_68 : decode cX10_buy 68 = .ok (.invokestatic 161, 3) := by decide +kernel
theorem dX10_buy_71 : decode cX10_buy 71 = .ok (.iload_n 1, 1) := by decide +kernel
theorem dX10_buy_72 : decode cX10_buy 72 = .ok (.iastore, 1) := by decide +kernel
theorem dX10_buy_73 : decode cX10_buy 73 = .ok (.aload_n 0, 1) := by decide +kernel
theorem dX10_buy_74 : decode cX10_buy 74 = .ok (.getfield 9, 3) := by decide +kernel
theorem dX10_buy_77 : decode cX10_buy 77 = .ok (.iload_n 1, 1) := by decide +kernel
theorem dX10_buy_78 : decode cX10_buy 78 = .ok (.iconst 3, 1) := by decide +kernel
theorem dX10_buy_79 : decode cX10_buy 79 = .ok (.invokestatic 81, 3) := by decide +kernel
theorem dX10_buy_82 : decode cX10_buy 82 = .ok (.dup2, 1) := by decide +kernel
theorem dX10_buy_83 : decode cX10_buy 83 = .ok (.iaload, 1) := by decide +kernel
theorem dX10_buy_84 : decode cX10_buy 84 = .ok (.aload_n 0, 1) := by decide +kernel
theorem dX10_buy_85 : decode cX10_buy 85 = .ok (.getfield 9, 3) := by decide +kernel
theorem dX10_buy_88 : decode cX10_buy 88 = .ok (.iload_n 2, 1) := by decide +kernel
theorem dX10_buy_89 : decode cX10_buy 89 = .ok (.iconst 0, 1) := by decide +kernel
theorem dX10_buy_90 : decode cX10_buy 90 = .ok (.invokestatic 161, 3) := by decide +kernel
theorem dX10_buy_93 : decode cX10_buy 93 = .ok (.iaload, 1) := by decide +kernel
theorem dX10_buy_94 : decode cX10_buy 94 = .ok (.isub, 1) := by decide +kernel
theorem dX10_buy_95 : decode cX10_buy 95 = .ok (.iastore, 1) := by decide +kernel
theorem dX10_buy_96 : decode cX10_buy 96 = .ok (.aload_n 0, 1) := by decide +kernel
theorem dX10_buy_97 : decode cX10_buy 97 = .ok (.iload_n 1, 1) := by decide +kernel
theorem dX10_buy_98 : decode cX10_buy 98 = .ok (.iconst 3, 1) := by decide +kernel
theorem dX10_buy_99 : decode cX10_buy 99 = .ok (.invokevirtual 104, 3) := by decide +kernel
theorem dX10_buy_102 : decode cX10_buy 102 = .ok (.ireturn, 1) := by decide +kernel
theorem dX10_errandsThat_0 : decode cX10_errandsThat 0 = .ok (.iconst 0, 1) := by decide +kernel
theorem dX10_errandsThat_1 : decode cX10_errandsThat 1 = .ok (.istore_n 2, 1) := by decide +kernel
theorem dX10_errandsThat_2 : decode cX10_errandsThat 2 = .ok (.iconst 0, 1) := by decide +kernel
theorem dX10_errandsThat_3 : decode cX10_errandsThat 3 = .ok (.istore_n 3, 1) := by decide +kernel
theorem dX10_errandsThat_4 : decode cX10_errandsThat 4 = .ok (.iload_n 3, 1) := by decide +kernel
theorem dX10_errandsThat_5 : decode cX10_errandsThat 5 = .ok (.aload_n 0, 1) := by decide +kernel
theorem dX10_errandsThat_6 : decode cX10_errandsThat 6 = .ok (.getfield 9, 3) := by decide +kernel
theorem dX10_errandsThat_9 : decode cX10_errandsThat 9 = .ok (.bipush 43, 2) := by decide +kernel
theorem dX10_errandsThat_11 : decode cX10_errandsThat 11 = .ok (.iaload, 1) := by decide +kernel
theorem dX10_errandsThat_12 : decode cX10_errandsThat 12 = .ok (.if_icmp .ge 29, 3) := by decide +kernel
theorem dX10_errandsThat_15 : decode cX10_errandsThat 15 = .ok (.iload_n 2, 1) := by decide +kernel
theorem dX10_errandsThat_16 : decode cX10_errandsThat 16 = .ok (.aload_n 0, 1) := by decide +kernel
theorem dX10_errandsThat_17 : decode cX10_errandsThat 17 = .ok (.iload_n 3, 1) := by decide +kernel
theorem dX10_errandsThat_18 : decode cX10_errandsThat 18 = .ok (.iconst 3, 1) := by decide +kernel
theorem dX10_errandsThat_19 : decode cX10_errandsThat 19 = .ok (.invokevirtual 111, 3) := by decide +kernel
theorem dX10_errandsThat_22 : decode cX10_errandsThat 22 = .ok (.iload_n 1, 1) := by decide +kernel
theorem dX10_errandsThat_23 : decode cX10_errandsThat 23 = .ok (.if_icmp .ne 9, 3) := by decide +kernel
theorem dX10_errandsThat_26 : decode cX10_errandsThat 26 = .ok (.iconst 1, 1) := by decide +kernel
theorem dX10_errandsThat_27 : decode cX10_errandsThat 27 = .ok (.iload_n 3, 1) := by decide +kernel
theorem dX10_errandsThat_28 : decode cX10_errandsThat 28 = .ok (.ishl, 1) := by decide +kernel
theorem dX10_errandsThat_29 : decode cX10_errandsThat 29 = .ok (.goto 4, 3) := by decide +kernel
theorem dX10_errandsThat_32 : decode cX10_errandsThat 32 = .ok (.iconst 0, 1) := by decide +kernel
theorem dX10_errandsThat_33 : decode cX10_errandsThat 33 = .ok (.ior, 1) := by decide +kernel
theorem dX10_errandsThat_34 : decode cX10_errandsThat 34 = .ok (.istore_n 2, 1) := by decide +kernel
theorem dX10_errandsThat_35 : decode cX10_errandsThat 35 = .ok (.iinc 3 1, 3) := by decide +kernel
theorem dX10_errandsThat_38 : decode cX10_errandsThat 38 = .ok (.goto (-34), 3) := by decide +kernel
theorem dX10_errandsThat_41 : decode cX10_errandsThat 41 = .ok (.iload_n 2, 1) := by decide +kernel
theorem dX10_errandsThat_42 : decode cX10_errandsThat 42 = .ok (.ireturn, 1) := by decide +kernel
theorem dX10_ofAll_0 : decode cX10_ofAll 0 = .ok (.iconst 0, 1) := by decide +kernel
theorem dX10_ofAll_1 : decode cX10_ofAll 1 = .ok (.istore_n 2, 1) := by decide +kernel
theorem dX10_ofAll_2 : decode cX10_ofAll 2 = .ok (.iconst 0, 1) := by decide +kernel
theorem dX10_ofAll_3 : decode cX10_ofAll 3 = .ok (.istore_n 3, 1) := by decide +kernel
theorem dX10_ofAll_4 : decode cX10_ofAll 4 = .ok (.iload_n 3, 1) := by decide +kernel
theorem dX10_ofAll_5 : decode cX10_ofAll 5 = .ok (.aload_n 0, 1) := by decide +kernel
theorem dX10_ofAll_6 : decode cX10_ofAll 6 = .ok (.getfield 9, 3) := by decide +kernel
theorem dX10_ofAll_9 : decode cX10_ofAll 9 = .ok (.bipush 42, 2) := by decide +kernel
theorem dX10_ofAll_11 : decode cX10_ofAll 11 = .ok (.iaload, 1) := by decide +kernel
theorem dX10_ofAll_12 : decode cX10_ofAll 12 = .ok (.if_icmp .ge 18, 3) := by decide +kernel
theorem dX10_ofAll_15 : decode cX10_ofAll 15 = .ok (.iload_n 2, 1) := by decide +kernel
theorem dX10_ofAll_16 : decode cX10_ofAll 16 = .ok (.aload_n 0, 1) := by decide +kernel
theorem dX10_ofAll_17 : decode cX10_ofAll 17 = .ok (.iload_n 3, 1) := by decide +kernel
theorem dX10_ofAll_18 : decode cX10_ofAll 18 = .ok (.iload_n 1, 1) := by decide +kernel
theorem dX10_ofAll_19 : decode cX10_ofAll 19 = .ok (.invokevirtual 104, 3) := by decide +kernel
theorem dX10_ofAll_22 : decode cX10_ofAll 22 = .ok (.iadd, 1) := by decide +kernel
theorem dX10_ofAll_23 : decode cX10_ofAll 23 = .ok (.istore_n 2, 1) := by decide +kernel
theorem dX10_ofAll_24 : decode cX10_ofAll 24 = .ok (.iinc 3 1, 3) := by decide +kernel
theorem dX10_ofAll_27 : decode cX10_ofAll 27 = .ok (.goto (-23), 3) := by decide +kernel
theorem dX10_ofAll_30 : decode cX10_ofAll 30 = .ok (.iload_n 2, 1) := by decide +kernel
theorem dX10_ofAll_31 : decode cX10_ofAll 31 = .ok (.ireturn, 1) := by decide +kernel
theorem dX10_now_0 : decode cX10_now 0 = .ok (.iconst 0, 1) := by decide +kernel
theorem dX10_now_1 : decode cX10_now 1 = .ok (.istore_n 2, 1) := by decide +kernel
theorem dX10_now_2 : decode cX10_now 2 = .ok (.iload_n 1, 1) := by decide +kernel
theorem dX10_now_3 : decode cX10_now 3 = .ok (.tableswitch 101 0 4 #[33, 39, 45, 89, 95], 33) := by decide +kernel
theorem dX10_now_36 : decode cX10_now 36 = .ok (.aload_n 0, 1) := by decide +kernel
theorem dX10_now_37 : decode cX10_now 37 = .ok (.iconst 0, 1) := by decide +kernel
theorem dX10_now_38 : decode cX10_now 38 = .ok (.invokevirtual 202, 3) := by decide +kernel
theorem dX10_now_41 : decode cX10_now 41 = .ok (.ireturn, 1) := by decide +kernel
theorem dX10_now_42 : decode cX10_now 42 = .ok (.aload_n 0, 1) := by decide +kernel
theorem dX10_now_43 : decode cX10_now 43 = .ok (.iconst 2, 1) := by decide +kernel
theorem dX10_now_44 : decode cX10_now 44 = .ok (.invokevirtual 202, 3) := by decide +kernel
theorem dX10_now_47 : decode cX10_now 47 = .ok (.ireturn, 1) := by decide +kernel
theorem dX10_now_48 : decode cX10_now 48 = .ok (.iconst 0, 1) := by decide +kernel
theorem dX10_now_49 : decode cX10_now 49 = .ok (.istore_n 3, 1) := by decide +kernel
theorem dX10_now_50 : decode cX10_now 50 = .ok (.iload_n 3, 1) := by decide +kernel
theorem dX10_now_51 : decode cX10_now 51 = .ok (.aload_n 0, 1) := by decide +kernel
theorem dX10_now_52 : decode cX10_now 52 = .ok (.getfield 9, 3) := by decide +kernel
theorem dX10_now_55 : decode cX10_now 55 = .ok (.bipush 44, 2) := by decide +kernel
theorem dX10_now_57 : decode cX10_now 57 = .ok (.iaload, 1) := by decide +kernel
theorem dX10_now_58 : decode cX10_now 58 = .ok (.if_icmp .ge 32, 3) := by decide +kernel
theorem dX10_now_61 : decode cX10_now 61 = .ok (.iload_n 2, 1) := by decide +kernel
theorem dX10_now_62 : decode cX10_now 62 = .ok (.aload_n 0, 1) := by decide +kernel
theorem dX10_now_63 : decode cX10_now 63 = .ok (.getfield 9, 3) := by decide +kernel
theorem dX10_now_66 : decode cX10_now 66 = .ok (.iload_n 3, 1) := by decide +kernel
theorem dX10_now_67 : decode cX10_now 67 = .ok (.iconst 1, 1) := by decide +kernel
theorem dX10_now_68 : decode cX10_now 68 = .ok (.invokestatic 161, 3) := by decide +kernel
theorem dX10_now_71 : decode cX10_now 71 = .ok (.iaload, 1) := by decide +kernel
theorem dX10_now_72 : decode cX10_now 72 = .ok (.ifCond .lt 9, 3) := by decide +kernel
theorem dX10_now_75 : decode cX10_now 75 = .ok (.iconst 1, 1) := by decide +kernel
theorem dX10_now_76 : decode cX10_now 76 = .ok (.iload_n 3, 1) := by decide +kernel
theorem dX10_now_77 : decode cX10_now 77 = .ok (.ishl, 1) := by decide +kernel
theorem dX10_now_78 : decode cX10_now 78 = .ok (.goto 4, 3) := by decide +kernel
theorem dX10_now_81 : decode cX10_now 81 = .ok (.iconst 0, 1) := by decide +kernel
theorem dX10_now_82 : decode cX10_now 82 = .ok (.ior, 1) := by decide +kernel
theorem dX10_now_83 : decode cX10_now 83 = .ok (.istore_n 2, 1) := by decide +kernel
theorem dX10_now_84 : decode cX10_now 84 = .ok (.iinc 3 1, 3) := by decide +kernel
theorem dX10_now_87 : decode cX10_now 87 = .ok (.goto (-37), 3) := by decide +kernel
theorem dX10_now_90 : decode cX10_now 90 = .ok (.iload_n 2, 1) := by decide +kernel
theorem dX10_now_91 : decode cX10_now 91 = .ok (.ireturn, 1) := by decide +kernel
theorem dX10_now_92 : decode cX10_now 92 = .ok (.aload_n 0, 1) := by decide +kernel
theorem dX10_now_93 : decode cX10_now 93 = .ok (.iconst 3, 1) := by decide +kernel
theorem dX10_now_94 : decode cX10_now 94 = .ok (.invokevirtual 205, 3) := by decide +kernel
theorem dX10_now_97 : decode cX10_now 97 = .ok (.ireturn, 1) := by decide +kernel
theorem dX10_now_98 : decode cX10_now 98 = .ok (.aload_n 0, 1) := by decide +kernel
theorem dX10_now_99 : decode cX10_now 99 = .ok (.iconst 4, 1) := by decide +kernel
theorem dX10_now_100 : decode cX10_now 100 = .ok (.invokevirtual 205, 3) := by decide +kernel
theorem dX10_now_103 : decode cX10_now 103 = .ok (.ireturn, 1) := by decide +kernel
theorem dX10_now_104 : decode cX10_now 104 = .ok (.aload_n 0, 1) := by decide +kernel
theorem dX10_now_105 : decode cX10_now 105 = .ok (.ldc 72, 2) := by decide +kernel
theorem dX10_now_107 : decode cX10_now 107 = .ok (.invokevirtual 92, 3) := by decide +kernel
theorem dX10_now_110 : decode cX10_now 110 = .ok (.ireturn, 1) := by decide +kernel
theorem dX10_digit_0 : decode cX10_digit 0 = .ok (.iload_n 1, 1) := by decide +kernel
theorem dX10_digit_1 : decode cX10_digit 1 = .ok (.aload_n 0, 1) := by decide +kernel
theorem dX10_digit_2 : decode cX10_digit 2 = .ok (.getfield 31, 3) := by decide +kernel
theorem dX10_digit_5 : decode cX10_digit 5 = .ok (.iload_n 2, 1) := by decide +kernel
theorem dX10_digit_6 : decode cX10_digit 6 = .ok (.iaload, 1) := by decide +kernel
theorem dX10_digit_7 : decode cX10_digit 7 = .ok (.idiv, 1) := by decide +kernel
theorem dX10_digit_8 : decode cX10_digit 8 = .ok (.iconst 3, 1) := by decide +kernel
theorem dX10_digit_9 : decode cX10_digit 9 = .ok (.irem, 1) := by decide +kernel
theorem dX10_digit_10 : decode cX10_digit 10 = .ok (.ireturn, 1) := by decide +kernel
theorem dX10_shorter_0 : decode cX10_shorter 0 = .ok (.aload_n 0, 1) := by decide +kernel
theorem dX10_shorter_1 : decode cX10_shorter 1 = .ok (.getfield 25, 3) := by decide +kernel
theorem dX10_shorter_4 : decode cX10_shorter 4 = .ok (.bipush 7, 2) := by decide +kernel
theorem dX10_shorter_6 : decode cX10_shorter 6 = .ok (.iload_n 1, 1) := by decide +kernel
theorem dX10_shorter_7 : decode cX10_shorter 7 = .ok (.imul, 1) := by decide +kernel
theorem dX10_shorter_8 : decode cX10_shorter 8 = .ok (.iload_n 2, 1) := by decide +kernel
theorem dX10_shorter_9 : decode cX10_shorter 9 = .ok (.iadd, 1) := by decide +kernel
theorem dX10_shorter_10 : decode cX10_shorter 10 = .ok (.aload_n 0, 1) := by decide +kernel
theorem dX10_shorter_11 : decode cX10_shorter 11 = .ok (.getfield 25, 3) := by decide +kernel
theorem dX10_shorter_14 : decode cX10_shorter 14 = .ok (.bipush 7, 2) := by decide +kernel
theorem dX10_shorter_16 : decode cX10_shorter 16 = .ok (.iload_n 1, 1) := by decide +kernel
theorem dX10_shorter_17 : decode cX10_shorter 17 = .ok (.imul, 1) := by decide +kernel
theorem dX10_shorter_18 : decode cX10_shorter 18 = .ok (.iload_n 2, 1) := by decide +kernel
theorem dX10_shorter_19 : decode cX10_shorter 19 = .ok (.iadd, 1) := by decide +kernel
theorem dX10_shorter_20 : decode cX10_shorter 20 = .ok (.iaload, 1) := by decide +kernel
theorem dX10_shorter_21 : decode cX10_shorter 21 = .ok (.iload_n 3, 1) := by decide +kernel
theorem dX10_shorter_22 : decode cX10_shorter 22 = .ok (.invokestatic 136, 3) := by decide +kernel
theorem dX10_shorter_25 : decode cX10_shorter 25 = .ok (.iastore, 1) := by decide +kernel
theorem dX10_shorter_26 : decode cX10_shorter 26 = .ok (.return_, 1) := by decide +kernel
theorem dX10_roundOf_0 : decode cX10_roundOf 0 = .ok (.aload_n 0, 1) := by decide +kernel
theorem dX10_roundOf_1 : decode cX10_roundOf 1 = .ok (.aload_n 0, 1) := by decide +kernel
theorem dX10_roundOf_2 : decode cX10_roundOf 2 = .ok (.iload_n 1, 1) := by decide +kernel
theorem dX10_roundOf_3 : decode cX10_roundOf 3 = .ok (.iconst 0, 1) := by decide +kernel
theorem dX10_roundOf_4 : decode cX10_roundOf 4 = .ok (.invokevirtual 104, 3) := by decide +kernel
theorem dX10_roundOf_7 : decode cX10_roundOf 7 = .ok (.invokevirtual 174, 3) := by decide +kernel
theorem dX10_roundOf_10 : decode cX10_roundOf 10 = .ok (.aload_n 0, 1) := by decide +kernel
theorem dX10_roundOf_11 : decode cX10_roundOf 11 = .ok (.iload_n 1, 1) := by decide +kernel
theorem dX10_roundOf_12 : decode cX10_roundOf 12 = .ok (.invokevirtual 120, 3) := by decide +kernel
theorem dX10_roundOf_15 : decode cX10_roundOf 15 = .ok (.istore_n 3, 1) := by decide +kernel
theorem dX10_roundOf_16 : decode cX10_roundOf 16 = .ok (.iconst 0, 1) := by decide +kernel
theorem dX10_roundOf_17 : decode cX10_roundOf 17 = .ok (.istore 4, 2) := by decide +kernel
theorem dX10_roundOf_19 : decode cX10_roundOf 19 = .ok (.iconst 0, 1) := by decide +kernel
theorem dX10_roundOf_20 : decode cX10_roundOf 20 = .ok (.istore 5, 2) := by decide +kernel
theorem dX10_roundOf_22 : decode cX10_roundOf 22 = .ok (.iload 5, 2) := by decide +kernel
theorem dX10_roundOf_24 : decode cX10_roundOf 24 = .ok (.aload_n 0, 1) := by decide +kernel
theorem dX10_roundOf_25 : decode cX10_roundOf 25 = .ok (.getfield 9, 3) := by decide +kernel
theorem dX10_roundOf_28 : decode cX10_roundOf 28 = .ok (.bipush 43, 2) := by decide +kernel
theorem dX10_roundOf_30 : decode cX10_roundOf 30 = .ok (.iaload, 1) := by decide +kernel
theorem dX10_roundOf_31 : decode cX10_roundOf 31 = .ok (.if_icmp .ge 30, 3) := by decide +kernel
theorem dX10_roundOf_34 : decode cX10_roundOf 34 = .ok (.iload_n 2, 1) := by decide +kernel
theorem dX10_roundOf_35 : decode cX10_roundOf 35 = .ok (.iload 5, 2) := by decide +kernel
theorem dX10_roundOf_37 : decode cX10_roundOf 37 = .ok (.invokestatic 114, 3) := by decide +kernel
theorem dX10_roundOf_40 : decode cX10_roundOf 40 = .ok (.ifCond .eq 15, 3) := by decide +kernel
theorem dX10_roundOf_43 : decode cX10_roundOf 43 = .ok (.aload_n 0, 1) := by decide +kernel
theorem dX10_roundOf_44 : decode cX10_roundOf 44 = .ok (.getfield 28, 3) := by decide +kernel
theorem dX10_roundOf_47 : decode cX10_roundOf 47 = .ok (.iload 4, 2) := by decide +kernel
theorem dX10_roundOf_49 : decode cX10_roundOf 49 = .ok (.iload 5, 2) := by decide +kernel
theorem dX10_roundOf_51 : decode cX10_roundOf 51 = .ok (.iastore, 1) := by decide +kernel
theorem dX10_roundOf_52 : decode cX10_roundOf 52 = .ok (.iinc 4 1, 3) := by decide +kernel
theorem dX10_roundOf_55 : decode cX10_roundOf 55 = .ok (.iinc 5 1, 3) := by decide +kernel
theorem dX10_roundOf_58 : decode cX10_roundOf 58 = .ok (.goto (-36), 3) := by decide +kernel
theorem dX10_roundOf_61 : decode cX10_roundOf 61 = .ok (.aload_n 0, 1) := by decide +kernel
theorem dX10_roundOf_62 : decode cX10_roundOf 62 = .ok (.getfield 31, 3) := by decide +kernel
theorem dX10_roundOf_65 : decode cX10_roundOf 65 = .ok (.iload 4, 2) := by decide +kernel
theorem dX10_roundOf_67 : decode cX10_roundOf 67 = .ok (.iaload, 1) := by decide +kernel
theorem dX10_roundOf_68 : decode cX10_roundOf 68 = .ok (.iconst 1, 1) := by decide +kernel
theorem dX10_roundOf_69 : decode cX10_roundOf 69 = .ok (.isub, 1) := by decide +kernel
theorem dX10_roundOf_70 : decode cX10_roundOf 70 = .ok (.istore 5, 2) := by decide +kernel
theorem dX10_roundOf_72 : decode cX10_roundOf 72 = .ok (.iconst 0, 1) := by decide +kernel
theorem dX10_roundOf_73 : decode cX10_roundOf 73 = .ok (.istore 6, 2) := by decide +kernel
theorem dX10_roundOf_75 : decode cX10_roundOf 75 = .ok (.iload 6, 2) := by decide +kernel
theorem dX10_roundOf_77 : decode cX10_roundOf 77 = .ok (.bipush 7, 2) := by decide +kernel
theorem dX10_roundOf_79 : decode cX10_roundOf 79 = .ok (.aload_n 0, 1) := by decide +kernel
theorem dX10_roundOf_80 : decode cX10_roundOf 80 = .ok (.getfield 31, 3) := by decide +kernel
theorem dX10_roundOf_83 : decode cX10_roundOf 83 = .ok (.iload 4, 2) := by decide +kernel
theorem dX10_roundOf_85 : decode cX10_roundOf 85 = .ok (.iaload, 1) := by decide +kernel
theorem dX10_roundOf_86 : decode cX10_roundOf 86 = .ok (.imul, 1) := by decide +kernel
theorem dX10_roundOf_87 : decode cX10_roundOf 87 = .ok (.if_icmp .ge 18, 3) := by decide +kernel
theorem dX10_roundOf_90 : decode cX10_roundOf 90 = .ok (.aload_n 0, 1) := by decide +kernel
theorem dX10_roundOf_91 : decode cX10_roundOf 91 = .ok (.getfield 25, 3) := by decide +kernel
theorem dX10_roundOf_94 : decode cX10_roundOf 94 = .ok (.iload 6, 2) := by decide +kernel
theorem dX10_roundOf_96 : decode cX10_roundOf 96 = .ok (.ldc 170, 2) := by decide +kernel
theorem dX10_roundOf_98 : decode cX10_roundOf 98 = .ok (.iastore, 1) := by decide +kernel
theorem dX10_roundOf_99 : decode cX10_roundOf 99 = .ok (.iinc 6 1, 3) := by decide +kernel
theorem dX10_roundOf_102 : decode cX10_roundOf 102 = .ok (.goto (-27), 3) := by decide +kernel
theorem dX10_roundOf_105 : decode cX10_roundOf 105 = .ok (.aload_n 0, 1) := by decide +kernel
theorem dX10_roundOf_106 : decode cX10_roundOf 106 = .ok (.getfield 25, 3) := by decide +kernel
theorem dX10_roundOf_109 : decode cX10_roundOf 109 = .ok (.aload_n 0, 1) := by decide +kernel
theorem dX10_roundOf_110 : decode cX10_roundOf 110 = .ok (.iload_n 1, 1) := by decide +kernel
theorem dX10_roundOf_111 : decode cX10_roundOf 111 = .ok (.iconst 1, 1) := by decide +kernel
theorem dX10_roundOf_112 : decode cX10_roundOf 112 = .ok (.invokevirtual 104, 3) := by decide +kernel
theorem dX10_roundOf_115 : decode cX10_roundOf 115 = .ok (.iconst 0, 1) := by decide +kernel
theorem dX10_roundOf_116 : decode cX10_roundOf 116 = .ok (.iastore, 1) := by decide +kernel
theorem dX10_roundOf_117 : decode cX10_roundOf 117 = .ok (.iconst 0, 1) := by decide +kernel
theorem dX10_roundOf_118 : decode cX10_roundOf 118 = .ok (.istore 6, 2) := by decide +kernel
theorem dX10_roundOf_120 : decode cX10_roundOf 120 = .ok (.iload 6, 2) := by decide +kernel
theorem dX10_roundOf_122 : decode cX10_roundOf 122 = .ok (.iload 5, 2) := by decide +kernel
theorem dX10_roundOf_124 : decode cX10_roundOf 124 = .ok (.if_icmp .ge 26, 3) := by decide +kernel
theorem dX10_roundOf_127 : decode cX10_roundOf 127 = .ok (.aload_n 0, 1) := by decide +kernel
theorem dX10_roundOf_128 : decode cX10_roundOf 128 = .ok (.iload 6, 2) := by decide +kernel
theorem dX10_roundOf_130 : decode cX10_roundOf 130 = .ok (.iload 4, 2) := by decide +kernel
theorem dX10_roundOf_132 : decode cX10_roundOf 132 = .ok (.invokevirtual 208, 3) := by decide +kernel
theorem dX10_roundOf_135 : decode cX10_roundOf 135 = .ok (.aload_n 0, 1) := by decide +kernel
theorem dX10_roundOf_136 : decode cX10_roundOf 136 = .ok (.iload 6, 2) := by decide +kernel
theorem dX10_roundOf_138 : decode cX10_roundOf 138 = .ok (.iload 4, 2) := by decide +kernel
theorem dX10_roundOf_140 : decode cX10_roundOf 140 = .ok (.iload_n 3, 1) := by decide +kernel
theorem dX10_roundOf_141 : decode cX10_roundOf 141 = .ok (.invokevirtual 211, 3) := by decide +kernel
theorem dX10_roundOf_144 : decode cX10_roundOf 144 = .ok (.iinc 6 1, 3) := by decide +kernel
theorem dX10_roundOf_147 : decode cX10_roundOf 147 = .ok (.goto (-27), 3) := by decide +kernel
theorem dX10_roundOf_150 : decode cX10_roundOf 150 = .ok (.ldc 170, 2) := by decide +kernel
theorem dX10_roundOf_152 : decode cX10_roundOf 152 = .ok (.istore 6, 2) := by decide +kernel
theorem dX10_roundOf_154 : decode cX10_roundOf 154 = .ok (.iconst 0, 1) := by decide +kernel
theorem dX10_roundOf_155 : decode cX10_roundOf 155 = .ok (.istore 7, 2) := by decide +kernel
theorem dX10_roundOf_157 : decode cX10_roundOf 157 = .ok (.iload 7, 2) := by decide +kernel
theorem dX10_roundOf_159 : decode cX10_roundOf 159 = .ok (.bipush 7, 2) := by decide +kernel
theorem dX10_roundOf_161 : decode cX10_roundOf 161 = .ok (.if_icmp .ge 29, 3) := by decide +kernel
theorem dX10_roundOf_164 : decode cX10_roundOf 164 = .ok (.iload 6, 2) := by decide +kernel
theorem dX10_roundOf_166 : decode cX10_roundOf 166 = .ok (.aload_n 0, 1) := by decide +kernel
theorem dX10_roundOf_167 : decode cX10_roundOf 167 = .ok (.getfield 25, 3) := by decide +kernel
theorem dX10_roundOf_170 : decode cX10_roundOf 170 = .ok (.bipush 7, 2) := by decide +kernel
theorem dX10_roundOf_172 : decode cX10_roundOf 172 = .ok (.iload 5, 2) := by decide +kernel
theorem dX10_roundOf_174 : decode cX10_roundOf 174 = .ok (.imul, 1) := by decide +kernel
theorem dX10_roundOf_175 : decode cX10_roundOf 175 = .ok (.iload 7, 2) := by decide +kernel
theorem dX10_roundOf_177 : decode cX10_roundOf 177 = .ok (.iadd, 1) := by decide +kernel
theorem dX10_roundOf_178 : decode cX10_roundOf 178 = .ok (.iaload, 1) := by decide +kernel
theorem dX10_roundOf_179 : decode cX10_roundOf 179 = .ok (.invokestatic 136, 3) := by decide +kernel
theorem dX10_roundOf_182 : decode cX10_roundOf 182 = .ok (.istore 6, 2) := by decide +kernel
theorem dX10_roundOf_184 : decode cX10_roundOf 184 = .ok (.iinc 7 1, 3) := by decide +kernel
theorem dX10_roundOf_187 : decode cX10_roundOf 187 = .ok (.goto (-30), 3) := by decide +kernel
theorem dX10_roundOf_190 : decode cX10_roundOf 190 = .ok (.iload 6, 2) := by decide +kernel
theorem dX10_roundOf_192 : decode cX10_roundOf 192 = .ok (.ireturn, 1) := by decide +kernel
theorem dX10_walkOn_0 : decode cX10_walkOn 0 = .ok (.iconst 0, 1) := by decide +kernel
theorem dX10_walkOn_1 : decode cX10_walkOn 1 = .ok (.istore_n 3, 1) := by decide +kernel
theorem dX10_walkOn_2 : decode cX10_walkOn 2 = .ok (.iload_n 3, 1) := by decide +kernel
theorem dX10_walkOn_3 : decode cX10_walkOn 3 = .ok (.bipush 7, 2) := by decide +kernel
theorem dX10_walkOn_5 : decode cX10_walkOn 5 = .ok (.if_icmp .ge 147, 3) := by decide +kernel
theorem dX10_walkOn_8 : decode cX10_walkOn 8 = .ok (.aload_n 0, 1) := by decide +kernel
theorem dX10_walkOn_9 : decode cX10_walkOn 9 = .ok (.getfield 25, 3) := by decide +kernel
theorem dX10_walkOn_12 : decode cX10_walkOn 12 = .ok (.bipush 7, 2) := by decide +kernel
theorem dX10_walkOn_14 : decode cX10_walkOn 14 = .ok (.iload_n 1, 1) := by decide +kernel
theorem dX10_walkOn_15 : decode cX10_walkOn 15 = .ok (.imul, 1) := by decide +kernel
theorem dX10_walkOn_16 : decode cX10_walkOn 16 = .ok (.iload_n 3, 1) := by decide +kernel
theorem dX10_walkOn_17 : decode cX10_walkOn 17 = .ok (.iadd, 1) := by decide +kernel
theorem dX10_walkOn_18 : decode cX10_walkOn 18 = .ok (.iaload, 1) := by decide +kernel
theorem dX10_walkOn_19 : decode cX10_walkOn 19 = .ok (.istore 4, 2) := by decide +kernel
theorem dX10_walkOn_21 : decode cX10_walkOn 21 = .ok (.iconst 0, 1) := by decide +kernel
theorem dX10_walkOn_22 : decode cX10_walkOn 22 = .ok (.istore 5, 2) := by decide +kernel
theorem dX10_walkOn_24 : decode cX10_walkOn 24 = .ok (.iload 5, 2) := by decide +kernel
theorem dX10_walkOn_26 : decode cX10_walkOn 26 = .ok (.bipush 7, 2) := by decide +kernel
theorem dX10_walkOn_28 : decode cX10_walkOn 28 = .ok (.if_icmp .ge 118, 3) := by decide +kernel
theorem dX10_walkOn_31 : decode cX10_walkOn 31 = .ok (.iload 4, 2) := by decide +kernel
theorem dX10_walkOn_33 : decode cX10_walkOn 33 = .ok (.ldc 170, 2) := by decide +kernel
theorem dX10_walkOn_35 : decode cX10_walkOn 35 = .ok (.if_icmp .ge 111, 3) := by decide +kernel
theorem dX10_walkOn_38 : decode cX10_walkOn 38 = .ok (.iload_n 1, 1) := by decide +kernel
theorem dX10_walkOn_39 : decode cX10_walkOn 39 = .ok (.istore 6, 2) := by decide +kernel
theorem dX10_walkOn_41 : decode cX10_walkOn 41 = .ok (.iconst 0, 1) := by decide +kernel
theorem dX10_walkOn_42 : decode cX10_walkOn 42 = .ok (.istore 7, 2) := by decide +kernel
theorem dX10_walkOn_44 : decode cX10_walkOn 44 = .ok (.iload 7, 2) := by decide +kernel
theorem dX10_walkOn_46 : decode cX10_walkOn 46 = .ok (.iload_n 2, 1) := by decide +kernel
theorem dX10_walkOn_47 : decode cX10_walkOn 47 = .ok (.if_icmp .ge 53, 3) := by decide +kernel
theorem dX10_walkOn_50 : decode cX10_walkOn 50 = .ok (.iload 6, 2) := by decide +kernel
theorem dX10_walkOn_52 : decode cX10_walkOn 52 = .ok (.aload_n 0, 1) := by decide +kernel
theorem dX10_walkOn_53 : decode cX10_walkOn 53 = .ok (.iload_n 1, 1) := by decide +kernel
theorem dX10_walkOn_54 : decode cX10_walkOn 54 = .ok (.iload 7, 2) := by decide +kernel
theorem dX10_walkOn_56 : decode cX10_walkOn 56 = .ok (.invokevirtual 215, 3) := by decide +kernel
theorem dX10_walkOn_59 : decode cX10_walkOn 59 = .ok (.iconst 1, 1) := by decide +kernel
theorem dX10_walkOn_60 : decode cX10_walkOn 60 = .ok (.if_icmp .ne 30, 3) := by decide +kernel
theorem dX10_walkOn_63 : decode cX10_walkOn 63 = .ok (.aload_n 0, 1) := by decide +kernel
theorem dX10_walkOn_64 : decode cX10_walkOn 64 = .ok (.aload_n 0, 1) := by decide +kernel
theorem dX10_walkOn_65 : decode cX10_walkOn 65 = .ok (.getfield 28, 3) := by decide +kernel
theorem dX10_walkOn_68 : decode cX10_walkOn 68 = .ok (.iload 7, 2) := by decide +kernel
theorem dX10_walkOn_70 : decode cX10_walkOn 70 = .ok (.iaload, 1) := by decide +kernel
theorem dX10_walkOn_71 : decode cX10_walkOn 71 = .ok (.iconst 2, 1) := by decide +kernel
theorem dX10_walkOn_72 : decode cX10_walkOn 72 = .ok (.invokevirtual 111, 3) := by decide +kernel
theorem dX10_walkOn_75 : decode cX10_walkOn 75 = .ok (.iload 5, 2) := by decide +kernel
theorem dX10_walkOn_77 : decode cX10_walkOn 77 = .ok (.if_icmp .ne 13, 3) := by decide +kernel
theorem dX10_walkOn_80 : decode cX10_walkOn 80 = .ok (.aload_n 0, 1) := by decide +kernel
theorem dX10_walkOn_81 : decode cX10_walkOn 81 = .ok (.getfield 31, 3) := by decide +kernel
theorem dX10_walkOn_84 : decode cX10_walkOn 84 = .ok (.iload 7, 2) := by decide +kernel
theorem dX10_walkOn_86 : decode cX10_walkOn 86 = .ok (.iaload, 1) := by decide +kernel
theorem dX10_walkOn_87 : decode cX10_walkOn 87 = .ok (.goto 4, 3) := by decide +kernel
theorem dX10_walkOn_90 : decode cX10_walkOn 90 = .ok (.iconst 0, 1) := by decide +kernel
theorem dX10_walkOn_91 : decode cX10_walkOn 91 = .ok (.iadd, 1) := by decide +kernel
theorem dX10_walkOn_92 : decode cX10_walkOn 92 = .ok (.istore 6, 2) := by decide +kernel
theorem dX10_walkOn_94 : decode cX10_walkOn 94 = .ok (.iinc 7 1, 3) := by decide +kernel
theorem dX10_walkOn_97 : decode cX10_walkOn 97 = .ok (.goto (-53), 3) := by decide +kernel
theorem dX10_walkOn_100 : decode cX10_walkOn 100 = .ok (.aload_n 0, 1) := by decide +kernel
theorem dX10_walkOn_101 : decode cX10_walkOn 101 = .ok (.getfield 22, 3) := by decide +kernel
theorem dX10_walkOn_104 : decode cX10_walkOn 104 = .ok (.bipush 7, 2) := by decide +kernel
theorem dX10_walkOn_106 : decode cX10_walkOn 106 = .ok (.iload_n 3, 1) := by decide +kernel
theorem dX10_walkOn_107 : decode cX10_walkOn 107 = .ok (.imul, 1) := by decide +kernel
theorem dX10_walkOn_108 : decode cX10_walkOn 108 = .ok (.iload 5, 2) := by decide +kernel
theorem dX10_walkOn_110 : decode cX10_walkOn 110 = .ok (.iadd, 1) := by decide +kernel
theorem dX10_walkOn_111 : decode cX10_walkOn 111 = .ok (.iaload, 1) := by decide +kernel
theorem dX10_walkOn_112 : decode cX10_walkOn 112 = .ok (.ldc 170, 2) := by decide +kernel
theorem dX10_walkOn_114 : decode cX10_walkOn 114 = .ok (.if_icmp .ge 26, 3) := by decide +kernel
theorem dX10_walkOn_117 : decode cX10_walkOn 117 = .ok (.aload_n 0, 1) := by decide +kernel
theorem dX10_walkOn_118 : decode cX10_walkOn 118 = .ok (.iload 6, 2) := by decide +kernel
theorem dX10_walkOn_120 : decode cX10_walkOn 120 = .ok (.iload 5, 2) := by decide +kernel
theorem dX10_walkOn_122 : decode cX10_walkOn 122 = .ok (.iload 4, 2) := by decide +kernel
theorem dX10_walkOn_124 : decode cX10_walkOn 124 = .ok (.aload_n 0, 1) := by decide +kernel
theorem dX10_walkOn_125 : decode cX10_walkOn 125 = .ok (.getfield 22, 3) := by decide +kernel
theorem dX10_walkOn_128 : decode cX10_walkOn 128 = .ok (.bipush 7, 2) := by decide +kernel
theorem dX10_walkOn_130 : decode cX10_walkOn 130 = .ok (.iload_n 3, 1) := by decide +kernel
theorem dX10_walkOn_131 : decode cX10_walkOn 131 = .ok (.imul, 1) := by decide +kernel
theorem dX10_walkOn_132 : decode cX10_walkOn 132 = .ok (.iload 5, 2) := by decide +kernel
theorem dX10_walkOn_134 : decode cX10_walkOn 134 = .ok (.iadd, 1) := by decide +kernel
theorem dX10_walkOn_135 : decode cX10_walkOn 135 = .ok (.iaload, 1) := by decide +kernel
theorem dX10_walkOn_136 : decode cX10_walkOn 136 = .ok (.iadd, 1) := by decide +kernel
theorem dX10_walkOn_137 : decode cX10_walkOn 137 = .ok (.invokevirtual 218, 3) := by decide +kernel
theorem dX10_walkOn_140 : decode cX10_walkOn 140 = .ok (.iinc 5 1, 3) := by decide +kernel
theorem dX10_walkOn_143 : decode cX10_walkOn 143 = .ok (.goto (-119), 3) := by decide +kernel
theorem dX10_walkOn_146 : decode cX10_walkOn 146 = .ok (.iinc 3 1, 3) := by decide +kernel
theorem dX10_walkOn_149 : decode cX10_walkOn 149 = .ok (.goto (-147), 3) := by decide +kernel
theorem dX10_walkOn_152 : decode cX10_walkOn 152 = .ok (.return_, 1) := by decide +kernel
theorem dX10_takeOn_0 : decode cX10_takeOn 0 = .ok (.iconst 0, 1) := by decide +kernel
theorem dX10_takeOn_1 : decode cX10_takeOn 1 = .ok (.istore 4, 2) := by decide +kernel
theorem dX10_takeOn_3 : decode cX10_takeOn 3 = .ok (.iconst 0, 1) := by decide +kernel
theorem dX10_takeOn_4 : decode cX10_takeOn 4 = .ok (.istore 5, 2) := by decide +kernel
theorem dX10_takeOn_6 : decode cX10_takeOn 6 = .ok (.iload 5, 2) := by decide +kernel
theorem dX10_takeOn_8 : decode cX10_takeOn 8 = .ok (.iload_n 2, 1) := by decide +kernel
theorem dX10_takeOn_9 : decode cX10_takeOn 9 = .ok (.if_icmp .ge 41, 3) := by decide +kernel
theorem dX10_takeOn_12 : decode cX10_takeOn 12 = .ok (.iload 4, 2) := by decide +kernel
theorem dX10_takeOn_14 : decode cX10_takeOn 14 = .ok (.aload_n 0, 1) := by decide +kernel
theorem dX10_takeOn_15 : decode cX10_takeOn 15 = .ok (.iload_n 1, 1) := by decide +kernel
theorem dX10_takeOn_16 : decode cX10_takeOn 16 = .ok (.iload 5, 2) := by decide +kernel
theorem dX10_takeOn_18 : decode cX10_takeOn 18 = .ok (.invokevirtual 215, 3) := by decide +kernel
theorem dX10_takeOn_21 : decode cX10_takeOn 21 = .ok (.iconst 1, 1) := by decide +kernel
theorem dX10_takeOn_22 : decode cX10_takeOn 22 = .ok (.if_icmp .ne 18, 3) := by decide +kernel
theorem dX10_takeOn_25 : decode cX10_takeOn 25 = .ok (.aload_n 0, 1) := by decide +kernel
theorem dX10_takeOn_26 : decode cX10_takeOn 26 = .ok (.aload_n 0, 1) := by decide +kernel
theorem dX10_takeOn_27 : decode cX10_takeOn 27 = .ok (.getfield 28, 3) := by decide +kernel
theorem dX10_takeOn_30 : decode cX10_takeOn 30 = .ok (.iload 5, 2) := by decide +kernel
theorem dX10_takeOn_32 : decode cX10_takeOn 32 = .ok (.iaload, 1) := by decide +kernel
theorem dX10_takeOn_33 : decode cX10_takeOn 33 = .ok (.iconst 0, 1) := by decide +kernel
theorem dX10_takeOn_34 : decode cX10_takeOn 34 = .ok (.invokevirtual 111, 3) := by decide +kernel
theorem dX10_takeOn_37 : decode cX10_takeOn 37 = .ok (.goto 4, 3) := by decide +kernel
theorem dX10_takeOn_40 : decode cX10_takeOn 40 = .ok (.iconst 0, 1) := by decide +kernel
theorem dX10_takeOn_41 : decode cX10_takeOn 41 = .ok (.iadd, 1) := by decide +kernel
theorem dX10_takeOn_42 : decode cX10_takeOn 42 = .ok (.istore 4, 2) := by decide +kernel
theorem dX10_takeOn_44 : decode cX10_takeOn 44 = .ok (.iinc 5 1, 3) := by decide +kernel
theorem dX10_takeOn_47 : decode cX10_takeOn 47 = .ok (.goto (-41), 3) := by decide +kernel
theorem dX10_takeOn_50 : decode cX10_takeOn 50 = .ok (.iconst 0, 1) := by decide +kernel
theorem dX10_takeOn_51 : decode cX10_takeOn 51 = .ok (.istore 5, 2) := by decide +kernel
theorem dX10_takeOn_53 : decode cX10_takeOn 53 = .ok (.iload 5, 2) := by decide +kernel
theorem dX10_takeOn_55 : decode cX10_takeOn 55 = .ok (.iload_n 2, 1) := by decide +kernel
theorem dX10_takeOn_56 : decode cX10_takeOn 56 = .ok (.if_icmp .ge 79, 3) := by decide +kernel
theorem dX10_takeOn_59 : decode cX10_takeOn 59 = .ok (.aload_n 0, 1) := by decide +kernel
theorem dX10_takeOn_60 : decode cX10_takeOn 60 = .ok (.aload_n 0, 1) := by decide +kernel
theorem dX10_takeOn_61 : decode cX10_takeOn 61 = .ok (.getfield 28, 3) := by decide +kernel
theorem dX10_takeOn_64 : decode cX10_takeOn 64 = .ok (.iload 5, 2) := by decide +kernel
theorem dX10_takeOn_66 : decode cX10_takeOn 66 = .ok (.iaload, 1) := by decide +kernel
theorem dX10_takeOn_67 : decode cX10_takeOn 67 = .ok (.iconst 1, 1) := by decide +kernel
theorem dX10_takeOn_68 : decode cX10_takeOn 68 = .ok (.invokevirtual 111, 3) := by decide +kernel
theorem dX10_takeOn_71 : decode cX10_takeOn 71 = .ok (.istore 6, 2) := by decide +kernel
theorem dX10_takeOn_73 : decode cX10_takeOn 73 = .ok (.aload_n 0, 1) := by decide +kernel
theorem dX10_takeOn_74 : decode cX10_takeOn 74 = .ok (.iload_n 1, 1) := by decide +kernel
theorem dX10_takeOn_75 : decode cX10_takeOn 75 = .ok (.iload 5, 2) := by decide +kernel
theorem dX10_takeOn_77 : decode cX10_takeOn 77 = .ok (.invokevirtual 215, 3) := by decide +kernel
theorem dX10_takeOn_80 : decode cX10_takeOn 80 = .ok (.ifCond .ne 49, 3) := by decide +kernel
theorem dX10_takeOn_83 : decode cX10_takeOn 83 = .ok (.iload 4, 2) := by decide +kernel
theorem dX10_takeOn_85 : decode cX10_takeOn 85 = .ok (.aload_n 0, 1) := by decide +kernel
theorem dX10_takeOn_86 : decode cX10_takeOn 86 = .ok (.aload_n 0, 1) := by decide +kernel
theorem dX10_takeOn_87 : decode cX10_takeOn 87 = .ok (.getfield 28, 3) := by decide +kernel
theorem dX10_takeOn_90 : decode cX10_takeOn 90 = .ok (.iload 5, 2) := by decide +kernel
theorem dX10_takeOn_92 : decode cX10_takeOn 92 = .ok (.iaload, 1) := by decide +kernel
theorem dX10_takeOn_93 : decode cX10_takeOn 93 = .ok (.iconst 0, 1) := by decide +kernel
theorem dX10_takeOn_94 : decode cX10_takeOn 94 = .ok (.invokevirtual 111, 3) := by decide +kernel
theorem dX10_takeOn_97 : decode cX10_takeOn 97 = .ok (.iadd, 1) := by decide +kernel
theorem dX10_takeOn_98 : decode cX10_takeOn 98 = .ok (.iload_n 3, 1) := by decide +kernel
theorem dX10_takeOn_99 : decode cX10_takeOn 99 = .ok (.if_icmp .gt 30, 3) := by decide +kernel
theorem dX10_takeOn_102 : decode cX10_takeOn 102 = .ok (.aload_n 0, 1) := by decide +kernel
theorem dX10_takeOn_103 : decode cX10_takeOn 103 = .ok (.iload_n 1, 1) := by decide +kernel
theorem dX10_takeOn_104 : decode cX10_takeOn 104 = .ok (.aload_n 0, 1) := by decide +kernel
theorem dX10_takeOn_105 : decode cX10_takeOn 105 = .ok (.getfield 31, 3) := by decide +kernel
theorem dX10_takeOn_108 : decode cX10_takeOn 108 = .ok (.iload 5, 2) := by decide +kernel
theorem dX10_takeOn_110 : decode cX10_takeOn 110 = .ok (.iaload, 1) := by decide +kernel
theorem dX10_takeOn_111 : decode cX10_takeOn 111 = .ok (.iadd, 1) := by decide +kernel
theorem dX10_takeOn_112 : decode cX10_takeOn 112 = .ok (.iload 6, 2) := by decide +kernel
theorem dX10_takeOn_114 : decode cX10_takeOn 114 = .ok (.aload_n 0, 1) := by decide +kernel
theorem dX10_takeOn_115 : decode cX10_takeOn 115 = .ok (.getfield 25, 3) := by decide +kernel
theorem dX10_takeOn_118 : decode cX10_takeOn 118 = .ok (.bipush 7, 2) := by decide +kernel
theorem dX10_takeOn_120 : decode cX10_takeOn 120 = .ok (.iload_n 1, 1) := by decide +kernel
theorem dX10_takeOn_121 : decode cX10_takeOn 121 = .ok (.imul, 1) := by decide +kernel
theorem dX10_takeOn_122 : decode cX10_takeOn 122 = .ok (.iload 6, 2) := by decide +kernel
theorem dX10_takeOn_124 : decode cX10_takeOn 124 = .ok (.iadd, 1) := by decide +kernel
theorem dX10_takeOn_125 : decode cX10_takeOn 125 = .ok (.iaload, 1) := by decide +kernel
theorem dX10_takeOn_126 : decode cX10_takeOn 126 = .ok (.invokevirtual 218, 3) := by decide +kernel
theorem dX10_takeOn_129 : decode cX10_takeOn 129 = .ok (.iinc 5 1, 3) := by decide +kernel
theorem dX10_takeOn_132 : decode cX10_takeOn 132 = .ok (.goto (-79), 3) := by decide +kernel
theorem dX10_takeOn_135 : decode cX10_takeOn 135 = .ok (.return_, 1) := by decide +kernel
theorem dX10_isSet_0 : decode cX10_isSet 0 = .ok (.iload_n 1, 1) := by decide +kernel
theorem dX10_isSet_1 : decode cX10_isSet 1 = .ok (.iconst 0, 1) := by decide +kernel
theorem dX10_isSet_2 : decode cX10_isSet 2 = .ok (.iconst 1, 1) := by decide +kernel
theorem dX10_isSet_3 : decode cX10_isSet 3 = .ok (.aload_n 0, 1) := by decide +kernel
theorem dX10_isSet_4 : decode cX10_isSet 4 = .ok (.getfield 9, 3) := by decide +kernel
theorem dX10_isSet_7 : decode cX10_isSet 7 = .ok (.bipush 43, 2) := by decide +kernel
theorem dX10_isSet_9 : decode cX10_isSet 9 = .ok (.iaload, 1) := by decide +kernel
theorem dX10_isSet_10 : decode cX10_isSet 10 = .ok (.ishl, 1) := by decide +kernel
theorem dX10_isSet_11 : decode cX10_isSet 11 = .ok (.iconst 1, 1) := by decide +kernel
theorem dX10_isSet_12 : decode cX10_isSet 12 = .ok (.isub, 1) := by decide +kernel
theorem dX10_isSet_13 : decode cX10_isSet 13 = .ok (.invokestatic 77, 3) := by decide +kernel
theorem dX10_isSet_16 : decode cX10_isSet 16 = .ok (.ifCond .eq 15, 3) := by decide +kernel
theorem dX10_isSet_19 : decode cX10_isSet 19 = .ok (.iload_n 1, 1) := by decide +kernel
theorem dX10_isSet_20 : decode cX10_isSet 20 = .ok (.invokestatic 221, 3) := by decide +kernel
theorem dX10_isSet_23 : decode cX10_isSet 23 = .ok (.iload_n 2, 1) := by decide +kernel
theorem dX10_isSet_24 : decode cX10_isSet 24 = .ok (.if_icmp .gt 7, 3) := by decide +kernel
theorem dX10_isSet_27 : decode cX10_isSet 27 = .ok (.iconst 1, 1) := by decide +kernel
theorem dX10_isSet_28 : decode cX10_isSet 28 = .ok (.goto 4, 3) := by decide +kernel
theorem dX10_isSet_31 : decode cX10_isSet 31 = .ok (.iconst 0, 1) := by decide +kernel
theorem dX10_isSet_32 : decode cX10_isSet 32 = .ok (.ireturn, 1) := by decide +kernel
theorem dX10_allLie_0 : decode cX10_allLie 0 = .ok (.iload_n 1, 1) := by decide +kernel
theorem dX10_allLie_1 : decode cX10_allLie 1 = .ok (.aload_n 0, 1) := by decide +kernel
theorem dX10_allLie_2 : decode cX10_allLie 2 = .ok (.iconst 0, 1) := by decide +kernel
theorem dX10_allLie_3 : decode cX10_allLie 3 = .ok (.invokevirtual 202, 3) := by decide +kernel
theorem dX10_allLie_6 : decode cX10_allLie 6 = .ok (.iconst (-1), 1) := by decide +kernel
theorem dX10_allLie_7 : decode cX10_allLie 7 = .ok (.ixor, 1) := by decide +kernel
theorem dX10_allLie_8 : decode cX10_allLie 8 = .ok (.iand, 1) := by decide +kernel
theorem dX10_allLie_9 : decode cX10_allLie 9 = .ok (.ifCond .ne 7, 3) := by decide +kernel
theorem dX10_allLie_12 : decode cX10_allLie 12 = .ok (.iconst 1, 1) := by decide +kernel
theorem dX10_allLie_13 : decode cX10_allLie 13 = .ok (.goto 4, 3) := by decide +kernel
theorem dX10_allLie_16 : decode cX10_allLie 16 = .ok (.iconst 0, 1) := by decide +kernel
theorem dX10_allLie_17 : decode cX10_allLie 17 = .ok (.ireturn, 1) := by decide +kernel
theorem dX10_refuses_0 : decode cX10_refuses 0 = .ok (.aload_n 0, 1) := by decide +kernel
theorem dX10_refuses_1 : decode cX10_refuses 1 = .ok (.iload_n 1, 1) := by decide +kernel
theorem dX10_refuses_2 : decode cX10_refuses 2 = .ok (.invokevirtual 117, 3) := by decide +kernel
theorem dX10_refuses_5 : decode cX10_refuses 5 = .ok (.ifCond .eq 12, 3) := by decide +kernel
theorem dX10_refuses_8 : decode cX10_refuses 8 = .ok (.aload_n 0, 1) := by decide +kernel
theorem dX10_refuses_9 : decode cX10_refuses 9 = .ok (.iload_n 2, 1) := by decide +kernel
theorem dX10_refuses_10 : decode cX10_refuses 10 = .ok (.iconst 5, 1) := by decide +kernel
theorem dX10_refuses_11 : decode cX10_refuses 11 = .ok (.invokevirtual 224, 3) := by decide +kernel
theorem dX10_refuses_14 : decode cX10_refuses 14 = .ok (.ifCond .ne 8, 3) := by decide +kernel
theorem dX10_refuses_17 : decode cX10_refuses 17 = .ok (.ldc 72, 2) := by decide +kernel
theorem dX10_refuses_19 : decode cX10_refuses 19 = .ok (.goto 25, 3) := by decide +kernel
theorem dX10_refuses_22 : decode cX10_refuses 22 = .ok (.aload_n 0, 1) := by decide +kernel
theorem dX10_refuses_23 : decode cX10_refuses 23 = .ok (.iload_n 2, 1) := by decide +kernel
theorem dX10_refuses_24 : decode cX10_refuses 24 = .ok (.invokevirtual 227, 3) := by decide +kernel
theorem dX10_refuses_27 : decode cX10_refuses 27 = .ok (.ifCond .eq 11, 3) := by decide +kernel
theorem dX10_refuses_30 : decode cX10_refuses 30 = .ok (.aload_n 0, 1) := by decide +kernel
theorem dX10_refuses_31 : decode cX10_refuses 31 = .ok (.iload_n 1, 1) := by decide +kernel
theorem dX10_refuses_32 : decode cX10_refuses 32 = .ok (.invokevirtual 123, 3) := by decide +kernel
theorem dX10_refuses_35 : decode cX10_refuses 35 = .ok (.ifCond .eq 8, 3) := by decide +kernel
theorem dX10_refuses_38 : decode cX10_refuses 38 = .ok (.ldc 184, 2) := by decide +kernel
theorem dX10_refuses_40 : decode cX10_refuses 40 = .ok (.goto 4, 3) := by decide +kernel
theorem dX10_refuses_43 : decode cX10_refuses 43 = .ok (.iconst 0, 1) := by decide +kernel
theorem dX10_refuses_44 : decode cX10_refuses 44 = .ok (.ireturn, 1) := by decide +kernel
theorem dX10_told_0 : decode cX10_told 0 = .ok (.iload_n 1, 1) := by decide +kernel
theorem dX10_told_1 : decode cX10_told 1 = .ok (.ldc 170, 2) := by decide +kernel
theorem dX10_told_3 : decode cX10_told 3 = .ok (.if_icmp .lt 12, 3) := by decide +kernel
theorem dX10_told_6 : decode cX10_told 6 = .ok (.aload_n 0, 1) := by decide +kernel
theorem dX10_told_7 : decode cX10_told 7 = .ok (.ldc 160, 2) := by decide +kernel
theorem dX10_told_9 : decode cX10_told 9 = .ok (.invokevirtual 92, 3) := by decide +kernel
theorem dX10_told_12 : decode cX10_told 12 = .ok (.goto 4, 3) := by decide +kernel
theorem dX10_told_15 : decode cX10_told 15 = .ok (.iload_n 1, 1) := by decide +kernel
theorem dX10_told_16 : decode cX10_told 16 = .ok (.ireturn, 1) := by decide +kernel
theorem dX10_round_0 : decode cX10_round 0 = .ok (.aload_n 0, 1) := by decide +kernel
theorem dX10_round_1 : decode cX10_round 1 = .ok (.iload_n 1, 1) := by decide +kernel
theorem dX10_round_2 : decode cX10_round 2 = .ok (.iload_n 2, 1) := by decide +kernel
theorem dX10_round_3 : decode cX10_round 3 = .ok (.invokevirtual 230, 3) := by decide +kernel
theorem dX10_round_6 : decode cX10_round 6 = .ok (.istore_n 3, 1) := by decide +kernel
theorem dX10_round_7 : decode cX10_round 7 = .ok (.iload_n 3, 1) := by decide +kernel
theorem dX10_round_8 : decode cX10_round 8 = .ok (.ifCond .eq 11, 3) := by decide +kernel
theorem dX10_round_11 : decode cX10_round 11 = .ok (.aload_n 0, 1) := by decide +kernel
theorem dX10_round_12 : decode cX10_round 12 = .ok (.iload_n 3, 1) := by decide +kernel
theorem dX10_round_13 : decode cX10_round 13 = .ok (.invokevirtual 92, 3) := by decide +kernel
theorem dX10_round_16 : decode cX10_round 16 = .ok (.goto 13, 3) := by decide +kernel
theorem dX10_round_19 : decode cX10_round 19 = .ok (.aload_n 0, 1) := by decide +kernel
theorem dX10_round_20 : decode cX10_round 20 = .ok (.aload_n 0, 1) := by decide +kernel
theorem dX10_round_21 : decode cX10_round 21 = .ok (.iload_n 1, 1) := by decide +kernel
theorem dX10_round_22 : decode cX10_round 22 = .ok (.iload_n 2, 1) := by decide +kernel
theorem dX10_round_23 : decode cX10_round 23 = .ok (.invokevirtual 233, 3) := by decide +kernel
theorem dX10_round_26 : decode cX10_round 26 = .ok (.invokevirtual 236, 3) := by decide +kernel
theorem dX10_round_29 : decode cX10_round 29 = .ok (.ireturn, 1) := by decide +kernel
theorem dX10_getsOf_0 : decode cX10_getsOf 0 = .ok (.iconst 0, 1) := by decide +kernel
theorem dX10_getsOf_1 : decode cX10_getsOf 1 = .ok (.istore_n 3, 1) := by decide +kernel
theorem dX10_getsOf_2 : decode cX10_getsOf 2 = .ok (.iconst 0, 1) := by decide +kernel
theorem dX10_getsOf_3 : decode cX10_getsOf 3 = .ok (.istore 4, 2) := by decide +kernel
theorem dX10_getsOf_5 : decode cX10_getsOf 5 = .ok (.iload 4, 2) := by decide +kernel
theorem dX10_getsOf_7 : decode cX10_getsOf 7 = .ok (.aload_n 0, 1) := by decide +kernel
theorem dX10_getsOf_8 : decode cX10_getsOf 8 = .ok (.getfield 9, 3) := by decide +kernel
theorem dX10_getsOf_11 : decode cX10_getsOf 11 = .ok (.bipush 43, 2) := by decide +kernel
theorem dX10_getsOf_13 : decode cX10_getsOf 13 = .ok (.iaload, 1) := by decide +kernel
theorem dX10_getsOf_14 : decode cX10_getsOf 14 = .ok (.if_icmp .ge 43, 3) := by decide +kernel
theorem dX10_getsOf_17 : decode cX10_getsOf 17 = .ok (.iload_n 2, 1) := by decide +kernel
theorem dX10_getsOf_18 : decode cX10_getsOf 18 = .ok (.iload 4, 2) := by decide +kernel
theorem dX10_getsOf_20 : decode cX10_getsOf 20 = .ok (.invokestatic 114, 3) := by decide +kernel
theorem dX10_getsOf_23 : decode cX10_getsOf 23 = .ok (.ifCond .eq 28, 3) := by decide +kernel
theorem dX10_getsOf_26 : decode cX10_getsOf 26 = .ok (.aload_n 0, 1) := by decide +kernel
theorem dX10_getsOf_27 : decode cX10_getsOf 27 = .ok (.iload 4, 2) := by decide +kernel
theorem dX10_getsOf_29 : decode cX10_getsOf 29 = .ok (.invokevirtual 157, 3) := by decide +kernel
theorem dX10_getsOf_32 : decode cX10_getsOf 32 = .ok (.istore 5, 2) := by decide +kernel
theorem dX10_getsOf_34 : decode cX10_getsOf 34 = .ok (.iload 5, 2) := by decide +kernel
theorem dX10_getsOf_36 : decode cX10_getsOf 36 = .ok (.ifCond .ge 5, 3) := by decide +kernel
theorem dX10_getsOf_39 : decode cX10_getsOf 39 = .ok (.iconst (-1), 1) := by decide +kernel
theorem dX10_getsOf_40 : decode cX10_getsOf 40 = .ok (.ireturn, 1) := by decide +kernel
theorem dX10_getsOf_41 : decode cX10_getsOf 41 = .ok (.iload_n 3, 1) := by decide +kernel
theorem dX10_getsOf_42 : decode cX10_getsOf 42 = .ok (.aload_n 0, 1) := by decide +kernel
theorem dX10_getsOf_43 : decode cX10_getsOf 43 = .ok (.iload_n 1, 1) := by decide +kernel
theorem dX10_getsOf_44 : decode cX10_getsOf 44 = .ok (.iload 5, 2) := by decide +kernel
theorem dX10_getsOf_46 : decode cX10_getsOf 46 = .ok (.invokevirtual 196, 3) := by decide +kernel
theorem dX10_getsOf_49 : decode cX10_getsOf 49 = .ok (.iadd, 1) := by decide +kernel
theorem dX10_getsOf_50 : decode cX10_getsOf 50 = .ok (.istore_n 3, 1) := by decide +kernel
theorem dX10_getsOf_51 : decode cX10_getsOf 51 = .ok (.iinc 4 1, 3) := by decide +kernel
theorem dX10_getsOf_54 : decode cX10_getsOf 54 = .ok (.goto (-49), 3) := by decide +kernel
theorem dX10_getsOf_57 : decode cX10_getsOf 57 = .ok (.iload_n 3, 1) := by decide +kernel
theorem dX10_getsOf_58 : decode cX10_getsOf 58 = .ok (.ireturn, 1) := by decide +kernel
theorem dX10_gets_0 : decode cX10_gets 0 = .ok (.aload_n 0, 1) := by decide +kernel
theorem dX10_gets_1 : decode cX10_gets 1 = .ok (.iload_n 1, 1) := by decide +kernel
theorem dX10_gets_2 : decode cX10_gets 2 = .ok (.invokevirtual 117, 3) := by decide +kernel
theorem dX10_gets_5 : decode cX10_gets 5 = .ok (.ifCond .eq 12, 3) := by decide +kernel
theorem dX10_gets_8 : decode cX10_gets 8 = .ok (.aload_n 0, 1) := by decide +kernel
theorem dX10_gets_9 : decode cX10_gets 9 = .ok (.iload_n 2, 1) := by decide +kernel
theorem dX10_gets_10 : decode cX10_gets 10 = .ok (.iconst 5, 1) := by decide +kernel
theorem dX10_gets_11 : decode cX10_gets 11 = .ok (.invokevirtual 224, 3) := by decide +kernel
theorem dX10_gets_14 : decode cX10_gets 14 = .ok (.ifCond .ne 10, 3) := by decide +kernel
theorem dX10_gets_17 : decode cX10_gets 17 = .ok (.aload_n 0, 1) := by decide +kernel
theorem dX10_gets_18 : decode cX10_gets 18 = .ok (.ldc 72, 2) := by decide +kernel
theorem dX10_gets_20 : decode cX10_gets 20 = .ok (.invokevirtual 92, 3) := by decide +kernel
theorem dX10_gets_23 : decode cX10_gets 23 = .ok (.ireturn, 1) := by decide +kernel
theorem dX10_gets_24 : decode cX10_gets 24 = .ok (.aload_n 0, 1) := by decide +kernel
theorem dX10_gets_25 : decode cX10_gets 25 = .ok (.iload_n 1, 1) := by decide +kernel
theorem dX10_gets_26 : decode cX10_gets 26 = .ok (.iload_n 2, 1) := by decide +kernel
theorem dX10_gets_27 : decode cX10_gets 27 = .ok (.invokevirtual 239, 3) := by decide +kernel
theorem dX10_gets_30 : decode cX10_gets 30 = .ok (.istore_n 3, 1) := by decide +kernel
theorem dX10_gets_31 : decode cX10_gets 31 = .ok (.iload_n 3, 1) := by decide +kernel
theorem dX10_gets_32 : decode cX10_gets 32 = .ok (.ifCond .ge 12, 3) := by decide +kernel
theorem dX10_gets_35 : decode cX10_gets 35 = .ok (.aload_n 0, 1) := by decide +kernel
theorem dX10_gets_36 : decode cX10_gets 36 = .ok (.ldc 160, 2) := by decide +kernel
theorem dX10_gets_38 : decode cX10_gets 38 = .ok (.invokevirtual 92, 3) := by decide +kernel
theorem dX10_gets_41 : decode cX10_gets 41 = .ok (.goto 4, 3) := by decide +kernel
theorem dX10_gets_44 : decode cX10_gets 44 = .ok (.iload_n 3, 1) := by decide +kernel
theorem dX10_gets_45 : decode cX10_gets 45 = .ok (.ireturn, 1) := by decide +kernel
theorem dX10_refusesWare_0 : decode cX10_refusesWare 0 = .ok (.aload_n 0, 1) := by decide +kernel
theorem dX10_refusesWare_1 : decode cX10_refusesWare 1 = .ok (.iload_n 1, 1) := by decide +kernel
theorem dX10_refusesWare_2 : decode cX10_refusesWare 2 = .ok (.invokevirtual 117, 3) := by decide +kernel
theorem dX10_refusesWare_5 : decode cX10_refusesWare 5 = .ok (.ifCond .eq 11, 3) := by decide +kernel
theorem dX10_refusesWare_8 : decode cX10_refusesWare 8 = .ok (.aload_n 0, 1) := by decide +kernel
theorem dX10_refusesWare_9 : decode cX10_refusesWare 9 = .ok (.iload_n 2, 1) := by decide +kernel
theorem dX10_refusesWare_10 : decode cX10_refusesWare 10 = .ok (.invokevirtual 167, 3) := by decide +kernel
theorem dX10_refusesWare_13 : decode cX10_refusesWare 13 = .ok (.ifCond .ne 6, 3) := by decide +kernel
theorem dX10_refusesWare_16 : decode cX10_refusesWare 16 = .ok (.ldc 72, 2) := by decide +kernel
theorem dX10_refusesWare_18 : decode cX10_refusesWare 18 = .ok (.ireturn, 1) := by decide +kernel
theorem dX10_refusesWare_19 : decode cX10_refusesWare 19 = .ok (.aload_n 0, 1) := by decide +kernel
theorem dX10_refusesWare_20 : decode cX10_refusesWare 20 = .ok (.getfield 9, 3) := by decide +kernel
theorem dX10_refusesWare_23 : decode cX10_refusesWare 23 = .ok (.iload_n 2, 1) := by decide +kernel
theorem dX10_refusesWare_24 : decode cX10_refusesWare 24 = .ok (.iconst 1, 1) := by decide +kernel
theorem dX10_refusesWare_25 : decode cX10_refusesWare 25 = .ok (.invokestatic 161, 3) := by decide +kernel
theorem dX10_refusesWare_28 : decode cX10_refusesWare 28 = .ok (.iaload, 1) := by decide +kernel
theorem dX10_refusesWare_29 : decode cX10_refusesWare 29 = .ok (.ifCond .ge 11, 3) := by decide +kernel
theorem dX10_refusesWare_32 : decode cX10_refusesWare 32 = .ok (.aload_n 0, 1) := by decide +kernel
theorem dX10_refusesWare_33 : decode cX10_refusesWare 33 = .ok (.iload_n 1, 1) := by decide +kernel
theorem dX10_refusesWare_34 : decode cX10_refusesWare 34 = .ok (.invokevirtual 123, 3) := by decide +kernel
theorem dX10_refusesWare_37 : decode cX10_refusesWare 37 = .ok (.ifCond .eq 6, 3) := by decide +kernel
theorem dX10_refusesWare_40 : decode cX10_refusesWare 40 = .ok (.ldc 184, 2) := by decide +kernel
theorem dX10_refusesWare_42 : decode cX10_refusesWare 42 = .ok (.ireturn, 1) := by decide +kernel
theorem dX10_refusesWare_43 : decode cX10_refusesWare 43 = .ok (.aload_n 0, 1) := by decide +kernel
theorem dX10_refusesWare_44 : decode cX10_refusesWare 44 = .ok (.ldc 170, 2) := by decide +kernel
theorem dX10_refusesWare_46 : decode cX10_refusesWare 46 = .ok (.putfield 242, 3) := by decide +kernel
theorem dX10_refusesWare_49 : decode cX10_refusesWare 49 = .ok (.aload_n 0, 1) := by decide +kernel
theorem dX10_refusesWare_50 : decode cX10_refusesWare 50 = .ok (.iconst 0, 1) := by decide +kernel
theorem dX10_refusesWare_51 : decode cX10_refusesWare 51 = .ok (.invokevirtual 202, 3) := by decide +kernel
theorem dX10_refusesWare_54 : decode cX10_refusesWare 54 = .ok (.istore_n 3, 1) := by decide +kernel
theorem dX10_refusesWare_55 : decode cX10_refusesWare 55 = .ok (.iconst 0, 1) := by decide +kernel
theorem dX10_refusesWare_56 : decode cX10_refusesWare 56 = .ok (.istore 4, 2) := by decide +kernel
theorem dX10_refusesWare_58 : decode cX10_refusesWare 58 = .ok (.iload 4, 2) := by decide +kernel
theorem dX10_refusesWare_60 : decode cX10_refusesWare 60 = .ok (.iconst 1, 1) := by decide +kernel
theorem dX10_refusesWare_61 : decode cX10_refusesWare 61 = .ok (.aload_n 0, 1) := by decide +kernel
theorem dX10_refusesWare_62 : decode cX10_refusesWare 62 = .ok (.getfield 9, 3) := by decide +kernel
theorem dX10_refusesWare_65 : decode cX10_refusesWare 65 = .ok (.bipush 43, 2) := by decide +kernel
theorem dX10_refusesWare_67 : decode cX10_refusesWare 67 = .ok (.iaload, 1) := by decide +kernel
theorem dX10_refusesWare_68 : decode cX10_refusesWare 68 = .ok (.ishl, 1) := by decide +kernel
theorem dX10_refusesWare_69 : decode cX10_refusesWare 69 = .ok (.if_icmp .ge 110, 3) := by decide +kernel
theorem dX10_refusesWare_72 : decode cX10_refusesWare 72 = .ok (.iload 4, 2) := by decide +kernel
theorem dX10_refusesWare_74 : decode cX10_refusesWare 74 = .ok (.iload_n 3, 1) := by decide +kernel
theorem dX10_refusesWare_75 : decode cX10_refusesWare 75 = .ok (.iconst (-1), 1) := by decide +kernel
theorem dX10_refusesWare_76 : decode cX10_refusesWare 76 = .ok (.ixor, 1) := by decide +kernel
theorem dX10_refusesWare_77 : decode cX10_refusesWare 77 = .ok (.iand, 1) := by decide +kernel
theorem dX10_refusesWare_78 : decode cX10_refusesWare 78 = .ok (.ifCond .ne 95, 3) := by decide +kernel
theorem dX10_refusesWare_81 : decode cX10_refusesWare 81 = .ok (.iload 4, 2) := by decide +kernel
theorem dX10_refusesWare_83 : decode cX10_refusesWare 83 = .ok (.invokestatic 221, 3) := by decide +kernel
theorem dX10_refusesWare_86 : decode cX10_refusesWare 86 = .ok (.iconst 5, 1) := by decide +kernel
theorem dX10_refusesWare_87 : decode cX10_refusesWare 87 = .ok (.if_icmp .gt 86, 3) := by decide +kernel
theorem dX10_refusesWare_90 : decode cX10_refusesWare 90 = .ok (.aload_n 0, 1) := by decide +kernel
theorem dX10_refusesWare_91 : decode cX10_refusesWare 91 = .ok (.iload_n 1, 1) := by decide +kernel
theorem dX10_refusesWare_92 : decode cX10_refusesWare 92 = .ok (.iload 4, 2) := by decide +kernel
theorem dX10_refusesWare_94 : decode cX10_refusesWare 94 = .ok (.invokevirtual 239, 3) := by decide +kernel
theorem dX10_refusesWare_97 : decode cX10_refusesWare 97 = .ok (.istore 5, 2) := by decide +kernel
theorem dX10_refusesWare_99 : decode cX10_refusesWare 99 = .ok (.iload 5, 2) := by decide +kernel
theorem dX10_refusesWare_101 : decode cX10_refusesWare 101 = .ok (.ifCond .lt 29, 3) := by decide +kernel
theorem dX10_refusesWare_104 : decode cX10_refusesWare 104 = .ok (.aload_n 0, 1) := by decide +kernel
theorem dX10_refusesWare_105 : decode cX10_refusesWare 105 = .ok (.iload_n 1, 1) := by decide +kernel
theorem dX10_refusesWare_106 : decode cX10_refusesWare 106 = .ok (.iconst 3, 1) := by decide +kernel
theorem dX10_refusesWare_107 : decode cX10_refusesWare 107 = .ok (.invokevirtual 104, 3) := by decide +kernel
theorem dX10_refusesWare_110 : decode cX10_refusesWare 110 = .ok (.iload 5, 2) := by decide +kernel
theorem dX10_refusesWare_112 : decode cX10_refusesWare 112 = .ok (.iadd, 1) := by decide +kernel
theorem dX10_refusesWare_113 : decode cX10_refusesWare 113 = .ok (.aload_n 0, 1) := by decide +kernel
theorem dX10_refusesWare_114 : decode cX10_refusesWare 114 = .ok (.getfield 9, 3) := by decide +kernel
theorem dX10_refusesWare_117 : decode cX10_refusesWare 117 = .ok (.iload_n 2, 1) := by decide +kernel
theorem dX10_refusesWare_118 : decode cX10_refusesWare 118 = .ok (.iconst 0, 1) := by decide +kernel
theorem dX10_refusesWare_119 : decode cX10_refusesWare 119 = .ok (.invokestatic 161, 3) := by decide +kernel
theorem dX10_refusesWare_122 : decode cX10_refusesWare 122 = .ok (.iaload, 1) := by decide +kernel
theorem dX10_refusesWare_123 : decode cX10_refusesWare 123 = .ok (.if_icmp .lt 7, 3) := by decide +kernel
theorem dX10_refusesWare_126 : decode cX10_refusesWare 126 = .ok (.iconst 1, 1) := by decide +kernel
theorem dX10_refusesWare_127 : decode cX10_refusesWare 127 = .ok (.goto 4, 3) := by decide +kernel
theorem dX10_refusesWare_130 : decode cX10_refusesWare 130 = .ok (.iconst 0, 1) := by decide +kernel
theorem dX10_refusesWare_131 : decode cX10_refusesWare 131 = .ok (.istore 6, 2) := by decide +kernel
theorem dX10_refusesWare_133 : decode cX10_refusesWare 133 = .ok (.iload 6, 2) := by decide +kernel
theorem dX10_refusesWare_135 : decode cX10_refusesWare 135 = .ok (.ifCond .eq 13, 3) := by decide +kernel
theorem dX10_refusesWare_138 : decode cX10_refusesWare 138 = .ok (.aload_n 0, 1) := by decide +kernel
theorem dX10_refusesWare_139 : decode cX10_refusesWare 139 = .ok (.iload_n 1, 1) := by decide +kernel
theorem dX10_refusesWare_140 : decode cX10_refusesWare 140 = .ok (.iload 4, 2) := by decide +kernel
theorem dX10_refusesWare_142 : decode cX10_refusesWare 142 = .ok (.invokevirtual 233, 3) := by decide +kernel
theorem dX10_refusesWare_145 : decode cX10_refusesWare 145 = .ok (.goto 5, 3) := by decide +kernel
theorem dX10_refusesWare_148 : decode cX10_refusesWare 148 = .ok (.ldc 170, 2) := by decide +kernel
theorem dX10_refusesWare_150 : decode cX10_refusesWare 150 = .ok (.istore 7, 2) := by decide +kernel
theorem dX10_refusesWare_152 : decode cX10_refusesWare 152 = .ok (.iload 7, 2) := by decide +kernel
theorem dX10_refusesWare_154 : decode cX10_refusesWare 154 = .ok (.aload_n 0, 1) := by decide +kernel
theorem dX10_refusesWare_155 : decode cX10_refusesWare 155 = .ok (.getfield 242, 3) := by decide +kernel
theorem dX10_refusesWare_158 : decode cX10_refusesWare 158 = .ok (.if_icmp .ge 15, 3) := by decide +kernel
theorem dX10_refusesWare_161 : decode cX10_refusesWare 161 = .ok (.aload_n 0, 1) := by decide +kernel
theorem dX10_refusesWare_162 : decode cX10_refusesWare 162 = .ok (.iload 7, 2) := by decide +kernel
theorem dX10_refusesWare_164 : decode cX10_refusesWare 164 = .ok (.putfield 242, 3) := by decide +kernel
theorem dX10_refusesWare_167 : decode cX10_refusesWare 167 = .ok (.aload_n 0, 1) := by decide +kernel
theorem dX10_refusesWare_168 : decode cX10_refusesWare 168 = .ok (.iload 4, 2) := by decide +kernel
theorem dX10_refusesWare_170 : decode cX10_refusesWare 170 = .ok (.putfield 245, 3) := by decide +kernel
theorem dX10_refusesWare_173 : decode cX10_refusesWare 173 = .ok (.iinc 4 1, 3) := by decide +kernel
theorem dX10_refusesWare_176 : decode cX10_refusesWare 176 = .ok (.goto (-118), 3) := by decide +kernel
theorem dX10_refusesWare_179 : decode cX10_refusesWare 179 = .ok (.aload_n 0, 1) := by decide +kernel
theorem dX10_refusesWare_180 : decode cX10_refusesWare 180 = .ok (.getfield 242, 3) := by decide +kernel
theorem dX10_refusesWare_183 : decode cX10_refusesWare 183 = .ok (.ldc 170, 2) := by decide +kernel
theorem dX10_refusesWare_185 : decode cX10_refusesWare 185 = .ok (.if_icmp .lt 8, 3) := by decide +kernel
theorem dX10_refusesWare_188 : decode cX10_refusesWare 188 = .ok (.ldc 160, 2) := by decide +kernel
theorem dX10_refusesWare_190 : decode cX10_refusesWare 190 = .ok (.goto 4, 3) := by decide +kernel
theorem dX10_refusesWare_193 : decode cX10_refusesWare 193 = .ok (.iconst 0, 1) := by decide +kernel
theorem dX10_refusesWare_194 : decode cX10_refusesWare 194 = .ok (.ireturn, 1) := by decide +kernel
theorem dX10_cheapest_0 : decode cX10_cheapest 0 = .ok (.aload_n 0, 1) := by decide +kernel
theorem dX10_cheapest_1 : decode cX10_cheapest 1 = .ok (.iload_n 1, 1) := by decide +kernel
theorem dX10_cheapest_2 : decode cX10_cheapest 2 = .ok (.iload_n 2, 1) := by decide +kernel
theorem dX10_cheapest_3 : decode cX10_cheapest 3 = .ok (.invokevirtual 248, 3) := by decide +kernel
theorem dX10_cheapest_6 : decode cX10_cheapest 6 = .ok (.istore_n 3, 1) := by decide +kernel
theorem dX10_cheapest_7 : decode cX10_cheapest 7 = .ok (.iload_n 3, 1) := by decide +kernel
theorem dX10_cheapest_8 : decode cX10_cheapest 8 = .ok (.ifCond .eq 11, 3) := by decide +kernel
theorem dX10_cheapest_11 : decode cX10_cheapest 11 = .ok (.aload_n 0, 1) := by decide +kernel
theorem dX10_cheapest_12 : decode cX10_cheapest 12 = .ok (.iload_n 3, 1) := by decide +kernel
theorem dX10_cheapest_13 : decode cX10_cheapest 13 = .ok (.invokevirtual 92, 3) := by decide +kernel
theorem dX10_cheapest_16 : decode cX10_cheapest 16 = .ok (.goto 7, 3) := by decide +kernel
theorem dX10_cheapest_19 : decode cX10_cheapest 19 = .ok (.aload_n 0, 1) := by decide +kernel
theorem dX10_cheapest_20 : decode cX10_cheapest 20 = .ok (.getfield 242, 3) := by decide +kernel
theorem dX10_cheapest_23 : decode cX10_cheapest 23 = .ok (.ireturn, 1) := by decide +kernel
theorem dX10_which_0 : decode cX10_which 0 = .ok (.aload_n 0, 1) := by decide +kernel
theorem dX10_which_1 : decode cX10_which 1 = .ok (.iload_n 1, 1) := by decide +kernel
theorem dX10_which_2 : decode cX10_which 2 = .ok (.iload_n 2, 1) := by decide +kernel
theorem dX10_which_3 : decode cX10_which 3 = .ok (.invokevirtual 248, 3) := by decide +kernel
theorem dX10_which_6 : decode cX10_which 6 = .ok (.istore_n 3, 1) := by decide +kernel
theorem dX10_which_7 : decode cX10_which 7 = .ok (.iload_n 3, 1) := by decide +kernel
theorem dX10_which_8 : decode cX10_which 8 = .ok (.ifCond .eq 11, 3) := by decide +kernel
theorem dX10_which_11 : decode cX10_which 11 = .ok (.aload_n 0, 1) := by decide +kernel
theorem dX10_which_12 : decode cX10_which 12 = .ok (.iload_n 3, 1) := by decide +kernel
theorem dX10_which_13 : decode cX10_which 13 = .ok (.invokevirtual 92, 3) := by decide +kernel
theorem dX10_which_16 : decode cX10_which 16 = .ok (.goto 7, 3) := by decide +kernel
theorem dX10_which_19 : decode cX10_which 19 = .ok (.aload_n 0, 1) := by decide +kernel
theorem dX10_which_20 : decode cX10_which 20 = .ok (.getfield 245, 3) := by decide +kernel
theorem dX10_which_23 : decode cX10_which 23 = .ok (.ireturn, 1) := by decide +kernel
theorem dX10_who_0 : decode cX10_who 0 = .ok (.aload_n 0, 1) := by decide +kernel
theorem dX10_who_1 : decode cX10_who 1 = .ok (.iload_n 1, 1) := by decide +kernel
theorem dX10_who_2 : decode cX10_who 2 = .ok (.iconst 5, 1) := by decide +kernel
theorem dX10_who_3 : decode cX10_who 3 = .ok (.invokevirtual 224, 3) := by decide +kernel
theorem dX10_who_6 : decode cX10_who 6 = .ok (.ifCond .ne 10, 3) := by decide +kernel
theorem dX10_who_9 : decode cX10_who 9 = .ok (.aload_n 0, 1) := by decide +kernel
theorem dX10_who_10 : decode cX10_who 10 = .ok (.ldc 72, 2) := by decide +kernel
theorem dX10_who_12 : decode cX10_who 12 = .ok (.invokevirtual 92, 3) := by decide +kernel
theorem dX10_who_15 : decode cX10_who 15 = .ok (.ireturn, 1) := by decide +kernel
theorem dX10_who_16 : decode cX10_who 16 = .ok (.aload_n 0, 1) := by decide +kernel
theorem dX10_who_17 : decode cX10_who 17 = .ok (.iload_n 1, 1) := by decide +kernel
theorem dX10_who_18 : decode cX10_who 18 = .ok (.invokevirtual 227, 3) := by decide +kernel
theorem dX10_who_21 : decode cX10_who 21 = .ok (.ifCond .ne 10, 3) := by decide +kernel
theorem dX10_who_24 : decode cX10_who 24 = .ok (.aload_n 0, 1) := by decide +kernel
theorem dX10_who_25 : decode cX10_who 25 = .ok (.ldc 184, 2) := by decide +kernel
theorem dX10_who_27 : decode cX10_who 27 = .ok (.invokevirtual 92, 3) := by decide +kernel
theorem dX10_who_30 : decode cX10_who 30 = .ok (.ireturn, 1) := by decide +kernel
theorem dX10_who_31 : decode cX10_who 31 = .ok (.iconst (-1), 1) := by decide +kernel
theorem dX10_who_32 : decode cX10_who 32 = .ok (.istore_n 2, 1) := by decide +kernel
theorem dX10_who_33 : decode cX10_who 33 = .ok (.ldc 170, 2) := by decide +kernel
theorem dX10_who_35 : decode cX10_who 35 = .ok (.istore_n 3, 1) := by decide +kernel
theorem dX10_who_36 : decode cX10_who 36 = .ok (.iconst 0, 1) := by decide +kernel
theorem dX10_who_37 : decode cX10_who 37 = .ok (.istore 4, 2) := by decide +kernel
theorem dX10_who_39 : decode cX10_who 39 = .ok (.iload 4, 2) := by decide +kernel
theorem dX10_who_41 : decode cX10_who 41 = .ok (.aload_n 0, 1) := by decide +kernel
theorem dX10_who_42 : decode cX10_who 42 = .ok (.getfield 9, 3) := by decide +kernel
theorem dX10_who_45 : decode cX10_who 45 = .ok (.bipush 42, 2) := by decide +kernel
theorem dX10_who_47 : decode cX10_who 47 = .ok (.iaload, 1) := by decide +kernel
theorem dX10_who_48 : decode cX10_who 48 = .ok (.if_icmp .ge 52, 3) := by decide +kernel
theorem dX10_who_51 : decode cX10_who 51 = .ok (.aload_n 0, 1) := by decide +kernel
theorem dX10_who_52 : decode cX10_who 52 = .ok (.iload 4, 2) := by decide +kernel
theorem dX10_who_54 : decode cX10_who 54 = .ok (.invokevirtual 123, 3) := by decide +kernel
theorem dX10_who_57 : decode cX10_who 57 = .ok (.ifCond .ne 13, 3) := by decide +kernel
theorem dX10_who_60 : decode cX10_who 60 = .ok (.aload_n 0, 1) := by decide +kernel
theorem dX10_who_61 : decode cX10_who 61 = .ok (.iload 4, 2) := by decide +kernel
theorem dX10_who_63 : decode cX10_who 63 = .ok (.iload_n 1, 1) := by decide +kernel
theorem dX10_who_64 : decode cX10_who 64 = .ok (.invokevirtual 233, 3) := by decide +kernel
theorem dX10_who_67 : decode cX10_who 67 = .ok (.goto 5, 3) := by decide +kernel
theorem dX10_who_70 : decode cX10_who 70 = .ok (.ldc 170, 2) := by decide +kernel
theorem dX10_who_72 : decode cX10_who 72 = .ok (.istore 5, 2) := by decide +kernel
theorem dX10_who_74 : decode cX10_who 74 = .ok (.iload 5, 2) := by decide +kernel
theorem dX10_who_76 : decode cX10_who 76 = .ok (.iload_n 3, 1) := by decide +kernel
theorem dX10_who_77 : decode cX10_who 77 = .ok (.if_icmp .ge 8, 3) := by decide +kernel
theorem dX10_who_80 : decode cX10_who 80 = .ok (.iload 4, 2) := by decide +kernel
theorem dX10_who_82 : decode cX10_who 82 = .ok (.goto 4, 3) := by decide +kernel
theorem dX10_who_85 : decode cX10_who 85 = .ok (.iload_n 2, 1) := by decide +kernel
theorem dX10_who_86 : decode cX10_who 86 = .ok (.istore_n 2, 1) := by decide +kernel
theorem dX10_who_87 : decode cX10_who 87 = .ok (.iload_n 3, 1) := by decide +kernel
theorem dX10_who_88 : decode cX10_who 88 = .ok (.iload 5, 2) := by decide +kernel
theorem dX10_who_90 : decode cX10_who 90 = .ok (.invokestatic 136, 3) := by decide +kernel
theorem dX10_who_93 : decode cX10_who 93 = .ok (.istore_n 3, 1) := by decide +kernel
theorem dX10_who_94 : decode cX10_who 94 = .ok (.iinc 4 1, 3) := by decide +kernel
theorem dX10_who_97 : decode cX10_who 97 = .ok (.goto (-58), 3) := by decide +kernel
theorem dX10_who_100 : decode cX10_who 100 = .ok (.iload_n 2, 1) := by decide +kernel
theorem dX10_who_101 : decode cX10_who 101 = .ok (.ifCond .ge 12, 3) := by decide +kernel
theorem dX10_who_104 : decode cX10_who 104 = .ok (.aload_n 0, 1) := by decide +kernel
theorem dX10_who_105 : decode cX10_who 105 = .ok (.ldc 160, 2) := by decide +kernel
theorem dX10_who_107 : decode cX10_who 107 = .ok (.invokevirtual 92, 3) := by decide +kernel
theorem dX10_who_110 : decode cX10_who 110 = .ok (.goto 4, 3) := by decide +kernel
theorem dX10_who_113 : decode cX10_who 113 = .ok (.iload_n 2, 1) := by decide +kernel
theorem dX10_who_114 : decode cX10_who 114 = .ok (.ireturn, 1) := by decide +kernel
theorem dX10_joined_0 : decode cX10_joined 0 = .ok (.aload_n 0, 1) := by decide +kernel
theorem dX10_joined_1 : decode cX10_joined 1 = .ok (.iload_n 1, 1) := by decide +kernel
theorem dX10_joined_2 : decode cX10_joined 2 = .ok (.iload_n 2, 1) := by decide +kernel
theorem dX10_joined_3 : decode cX10_joined 3 = .ok (.invokevirtual 230, 3) := by decide +kernel
theorem dX10_joined_6 : decode cX10_joined 6 = .ok (.istore_n 3, 1) := by decide +kernel
theorem dX10_joined_7 : decode cX10_joined 7 = .ok (.iload_n 3, 1) := by decide +kernel
theorem dX10_joined_8 : decode cX10_joined 8 = .ok (.ifCond .eq 9, 3) := by decide +kernel
theorem dX10_joined_11 : decode cX10_joined 11 = .ok (.aload_n 0, 1) := by decide +kernel
theorem dX10_joined_12 : decode cX10_joined 12 = .ok (.iload_n 3, 1) := by decide +kernel
theorem dX10_joined_13 : decode cX10_joined 13 = .ok (.invokevirtual 92, 3) := by decide +kernel
theorem dX10_joined_16 : decode cX10_joined 16 = .ok (.ireturn, 1) := by decide +kernel
theorem dX10_joined_17 : decode cX10_joined 17 = .ok (.aload_n 0, 1) := by decide +kernel
theorem dX10_joined_18 : decode cX10_joined 18 = .ok (.iload_n 1, 1) := by decide +kernel
theorem dX10_joined_19 : decode cX10_joined 19 = .ok (.iload_n 2, 1) := by decide +kernel
theorem dX10_joined_20 : decode cX10_joined 20 = .ok (.invokevirtual 233, 3) := by decide +kernel
theorem dX10_joined_23 : decode cX10_joined 23 = .ok (.istore 4, 2) := by decide +kernel
theorem dX10_joined_25 : decode cX10_joined 25 = .ok (.iconst 0, 1) := by decide +kernel
theorem dX10_joined_26 : decode cX10_joined 26 = .ok (.istore 5, 2) := by decide +kernel
theorem dX10_joined_28 : decode cX10_joined 28 = .ok (.iconst 0, 1) := by decide +kernel
theorem dX10_joined_29 : decode cX10_joined 29 = .ok (.istore 6, 2) := by decide +kernel
theorem dX10_joined_31 : decode cX10_joined 31 = .ok (.iload 6, 2) := by decide +kernel
theorem dX10_joined_33 : decode cX10_joined 33 = .ok (.aload_n 0, 1) := by decide +kernel
theorem dX10_joined_34 : decode cX10_joined 34 = .ok (.getfield 9, 3) := by decide +kernel
theorem dX10_joined_37 : decode cX10_joined 37 = .ok (.bipush 43, 2) := by decide +kernel
theorem dX10_joined_39 : decode cX10_joined 39 = .ok (.iaload, 1) := by decide +kernel
theorem dX10_joined_40 : decode cX10_joined 40 = .ok (.if_icmp .ge 66, 3) := by decide +kernel
theorem dX10_joined_43 : decode cX10_joined 43 = .ok (.iload 4, 2) := by decide +kernel
theorem dX10_joined_45 : decode cX10_joined 45 = .ok (.ldc 170, 2) := by decide +kernel
theorem dX10_joined_47 : decode cX10_joined 47 = .ok (.if_icmp .ge 59, 3) := by decide +kernel
theorem dX10_joined_50 : decode cX10_joined 50 = .ok (.iload_n 2, 1) := by decide +kernel
theorem dX10_joined_51 : decode cX10_joined 51 = .ok (.iload 6, 2) := by decide +kernel
theorem dX10_joined_53 : decode cX10_joined 53 = .ok (.invokestatic 114, 3) := by decide +kernel
theorem dX10_joined_56 : decode cX10_joined 56 = .ok (.ifCond .eq 44, 3) := by decide +kernel
theorem dX10_joined_59 : decode cX10_joined 59 = .ok (.iload 5, 2) := by decide +kernel
theorem dX10_joined_61 : decode cX10_joined 61 = .ok (.aload_n 0, 1) := by decide +kernel
theorem dX10_joined_62 : decode cX10_joined 62 = .ok (.iload_n 1, 1) := by decide +kernel
theorem dX10_joined_63 : decode cX10_joined 63 = .ok (.iconst 1, 1) := by decide +kernel
theorem dX10_joined_64 : decode cX10_joined 64 = .ok (.iload 6, 2) := by decide +kernel
theorem dX10_joined_66 : decode cX10_joined 66 = .ok (.ishl, 1) := by decide +kernel
theorem dX10_joined_67 : decode cX10_joined 67 = .ok (.invokevirtual 233, 3) := by decide +kernel
theorem dX10_joined_70 : decode cX10_joined 70 = .ok (.iadd, 1) := by decide +kernel
theorem dX10_joined_71 : decode cX10_joined 71 = .ok (.istore 5, 2) := by decide +kernel
theorem dX10_joined_73 : decode cX10_joined 73 = .ok (.iload 5, 2) := by decide +kernel
theorem dX10_joined_75 : decode cX10_joined 75 = .ok (.aload_n 0, 1) := by decide +kernel
theorem dX10_joined_76 : decode cX10_joined 76 = .ok (.getfield 22, 3) := by decide +kernel
theorem dX10_joined_79 : decode cX10_joined 79 = .ok (.bipush 7, 2) := by decide +kernel
theorem dX10_joined_81 : decode cX10_joined 81 = .ok (.aload_n 0, 1) := by decide +kernel
theorem dX10_joined_82 : decode cX10_joined 82 = .ok (.iload 6, 2) := by decide +kernel
theorem dX10_joined_84 : decode cX10_joined 84 = .ok (.iconst 2, 1) := by decide +kernel
theorem dX10_joined_85 : decode cX10_joined 85 = .ok (.invokevirtual 111, 3) := by decide +kernel
theorem dX10_joined_88 : decode cX10_joined 88 = .ok (.imul, 1) := by decide +kernel
theorem dX10_joined_89 : decode cX10_joined 89 = .ok (.aload_n 0, 1) := by decide +kernel
theorem dX10_joined_90 : decode cX10_joined 90 = .ok (.iload_n 1, 1) := by decide +kernel
theorem dX10_joined_91 : decode cX10_joined 91 = .ok (.iconst 1, 1) := by decide +kernel
theorem dX10_joined_92 : decode cX10_joined 92 = .ok (.invokevirtual 104, 3) := by decide +kernel
theorem dX10_joined_95 : decode cX10_joined 95 = .ok (.iadd, 1) := by decide +kernel
theorem dX10_joined_96 : decode cX10_joined 96 = .ok (.iaload, 1) := by decide +kernel
theorem dX10_joined_97 : decode cX10_joined 97 = .ok (.iadd, 1) := by decide +kernel
theorem dX10_joined_98 : decode cX10_joined 98 = .ok (.istore 5, 2) := by decide +kernel
theorem dX10_joined_100 : decode cX10_joined 100 = .ok (.iinc 6 1, 3) := by decide +kernel
theorem dX10_joined_103 : decode cX10_joined 103 = .ok (.goto (-72), 3) := by decide +kernel
theorem dX10_joined_106 : decode cX10_joined 106 = .ok (.iload 4, 2) := by decide +kernel
theorem dX10_joined_108 : decode cX10_joined 108 = .ok (.ldc 170, 2) := by decide +kernel
theorem dX10_joined_110 : decode cX10_joined 110 = .ok (.if_icmp .lt 12, 3) := by decide +kernel
theorem dX10_joined_113 : decode cX10_joined 113 = .ok (.aload_n 0, 1) := by decide +kernel
theorem dX10_joined_114 : decode cX10_joined 114 = .ok (.ldc 160, 2) := by decide +kernel
theorem dX10_joined_116 : decode cX10_joined 116 = .ok (.invokevirtual 92, 3) := by decide +kernel
theorem dX10_joined_119 : decode cX10_joined 119 = .ok (.goto 8, 3) := by decide +kernel
theorem dX10_joined_122 : decode cX10_joined 122 = .ok (.iload 5, 2) := by decide +kernel
theorem dX10_joined_124 : decode cX10_joined 124 = .ok (.iload 4, 2) := by decide +kernel
theorem dX10_joined_126 : decode cX10_joined 126 = .ok (.isub, 1) := by decide +kernel
theorem dX10_joined_127 : decode cX10_joined 127 = .ok (.ireturn, 1) := by decide +kernel
theorem dX10_refusesShared_0 : decode cX10_refusesShared 0 = .ok (.aload_n 0, 1) := by decide +kernel
theorem dX10_refusesShared_1 : decode cX10_refusesShared 1 = .ok (.iload_n 1, 1) := by decide +kernel
theorem dX10_refusesShared_2 : decode cX10_refusesShared 2 = .ok (.invokevirtual 117, 3) := by decide +kernel
theorem dX10_refusesShared_5 : decode cX10_refusesShared 5 = .ok (.ifCond .eq 25, 3) := by decide +kernel
theorem dX10_refusesShared_8 : decode cX10_refusesShared 8 = .ok (.aload_n 0, 1) := by decide +kernel
theorem dX10_refusesShared_9 : decode cX10_refusesShared 9 = .ok (.iload_n 2, 1) := by decide +kernel
theorem dX10_refusesShared_10 : decode cX10_refusesShared 10 = .ok (.invokevirtual 117, 3) := by decide +kernel
theorem dX10_refusesShared_13 : decode cX10_refusesShared 13 = .ok (.ifCond .eq 17, 3) := by decide +kernel
theorem dX10_refusesShared_16 : decode cX10_refusesShared 16 = .ok (.iload_n 1, 1) := by decide +kernel
theorem dX10_refusesShared_17 : decode cX10_refusesShared 17 = .ok (.iload_n 2, 1) := by decide +kernel
theorem dX10_refusesShared_18 : decode cX10_refusesShared 18 = .ok (.if_icmp .eq 12, 3) := by decide +kernel
theorem dX10_refusesShared_21 : decode cX10_refusesShared 21 = .ok (.aload_n 0, 1) := by decide +kernel
theorem dX10_refusesShared_22 : decode cX10_refusesShared 22 = .ok (.iload_n 3, 1) := by decide +kernel
theorem dX10_refusesShared_23 : decode cX10_refusesShared 23 = .ok (.iconst 5, 1) := by decide +kernel
theorem dX10_refusesShared_24 : decode cX10_refusesShared 24 = .ok (.invokevirtual 224, 3) := by decide +kernel
theorem dX10_refusesShared_27 : decode cX10_refusesShared 27 = .ok (.ifCond .ne 6, 3) := by decide +kernel
theorem dX10_refusesShared_30 : decode cX10_refusesShared 30 = .ok (.ldc 72, 2) := by decide +kernel
theorem dX10_refusesShared_32 : decode cX10_refusesShared 32 = .ok (.ireturn, 1) := by decide +kernel
theorem dX10_refusesShared_33 : decode cX10_refusesShared 33 = .ok (.aload_n 0, 1) := by decide +kernel
theorem dX10_refusesShared_34 : decode cX10_refusesShared 34 = .ok (.iload_n 3, 1) := by decide +kernel
theorem dX10_refusesShared_35 : decode cX10_refusesShared 35 = .ok (.invokevirtual 227, 3) := by decide +kernel
theorem dX10_refusesShared_38 : decode cX10_refusesShared 38 = .ok (.ifCond .eq 19, 3) := by decide +kernel
theorem dX10_refusesShared_41 : decode cX10_refusesShared 41 = .ok (.aload_n 0, 1) := by decide +kernel
theorem dX10_refusesShared_42 : decode cX10_refusesShared 42 = .ok (.iload_n 1, 1) := by decide +kernel
theorem dX10_refusesShared_43 : decode cX10_refusesShared 43 = .ok (.invokevirtual 123, 3) := by decide +kernel
theorem dX10_refusesShared_46 : decode cX10_refusesShared 46 = .ok (.ifCond .ne 11, 3) := by decide +kernel
theorem dX10_refusesShared_49 : decode cX10_refusesShared 49 = .ok (.aload_n 0, 1) := by decide +kernel
theorem dX10_refusesShared_50 : decode cX10_refusesShared 50 = .ok (.iload_n 2, 1) := by decide +kernel
theorem dX10_refusesShared_51 : decode cX10_refusesShared 51 = .ok (.invokevirtual 123, 3) := by decide +kernel
theorem dX10_refusesShared_54 : decode cX10_refusesShared 54 = .ok (.ifCond .eq 6, 3) := by decide +kernel
theorem dX10_refusesShared_57 : decode cX10_refusesShared 57 = .ok (.ldc 184, 2) := by decide +kernel
theorem dX10_refusesShared_59 : decode cX10_refusesShared 59 = .ok (.ireturn, 1) := by decide +kernel
theorem dX10_refusesShared_60 : decode cX10_refusesShared 60 = .ok (.aload_n 0, 1) := by decide +kernel
theorem dX10_refusesShared_61 : decode cX10_refusesShared 61 = .ok (.ldc 170, 2) := by decide +kernel
theorem dX10_refusesShared_63 : decode cX10_refusesShared 63 = .ok (.putfield 242, 3) := by decide +kernel
theorem dX10_refusesShared_66 : decode cX10_refusesShared 66 = .ok (.iconst 0, 1) := by decide +kernel
theorem dX10_refusesShared_67 : decode cX10_refusesShared 67 = .ok (.istore 4, 2) := by decide +kernel
theorem dX10_refusesShared_69 : decode cX10_refusesShared 69 = .ok (.iload 4, 2) := by decide +kernel
theorem dX10_refusesShared_71 : decode cX10_refusesShared 71 = .ok (.iload_n 3, 1) := by decide +kernel
theorem dX10_refusesShared_72 : decode cX10_refusesShared 72 = .ok (.if_icmp .gt 64, 3) := by decide +kernel
theorem dX10_refusesShared_75 : decode cX10_refusesShared 75 = .ok (.iload 4, 2) := by decide +kernel
theorem dX10_refusesShared_77 : decode cX10_refusesShared 77 = .ok (.iload_n 3, 1) := by decide +kernel
theorem dX10_refusesShared_78 : decode cX10_refusesShared 78 = .ok (.iconst (-1), 1) := by decide +kernel
theorem dX10_refusesShared_79 : decode cX10_refusesShared 79 = .ok (.ixor, 1) := by decide +kernel
theorem dX10_refusesShared_80 : decode cX10_refusesShared 80 = .ok (.iand, 1) := by decide +kernel
theorem dX10_refusesShared_81 : decode cX10_refusesShared 81 = .ok (.ifCond .ne 49, 3) := by decide +kernel
theorem dX10_refusesShared_84 : decode cX10_refusesShared 84 = .ok (.aload_n 0, 1) := by decide +kernel
theorem dX10_refusesShared_85 : decode cX10_refusesShared 85 = .ok (.iload_n 1, 1) := by decide +kernel
theorem dX10_refusesShared_86 : decode cX10_refusesShared 86 = .ok (.iload 4, 2) := by decide +kernel
theorem dX10_refusesShared_88 : decode cX10_refusesShared 88 = .ok (.invokevirtual 233, 3) := by decide +kernel
theorem dX10_refusesShared_91 : decode cX10_refusesShared 91 = .ok (.istore 5, 2) := by decide +kernel
theorem dX10_refusesShared_93 : decode cX10_refusesShared 93 = .ok (.iload 5, 2) := by decide +kernel
theorem dX10_refusesShared_95 : decode cX10_refusesShared 95 = .ok (.aload_n 0, 1) := by decide +kernel
theorem dX10_refusesShared_96 : decode cX10_refusesShared 96 = .ok (.iload_n 2, 1) := by decide +kernel
theorem dX10_refusesShared_97 : decode cX10_refusesShared 97 = .ok (.iload_n 3, 1) := by decide +kernel
theorem dX10_refusesShared_98 : decode cX10_refusesShared 98 = .ok (.iload 4, 2) := by decide +kernel
theorem dX10_refusesShared_100 : decode cX10_refusesShared 100 = .ok (.iconst (-1), 1) := by decide +kernel
theorem dX10_refusesShared_101 : decode cX10_refusesShared 101 = .ok (.ixor, 1) := by decide +kernel
theorem dX10_refusesShared_102 : decode cX10_refusesShared 102 = .ok (.iand, 1) := by decide +kernel
theorem dX10_refusesShared_103 : decode cX10_refusesShared 103 = .ok (.invokevirtual 233, 3) := by decide +kernel
theorem dX10_refusesShared_106 : decode cX10_refusesShared 106 = .ok (.iadd, 1) := by decide +kernel
theorem dX10_refusesShared_107 : decode cX10_refusesShared 107 = .ok (.istore 5, 2) := by decide +kernel
theorem dX10_refusesShared_109 : decode cX10_refusesShared 109 = .ok (.iload 5, 2) := by decide +kernel
theorem dX10_refusesShared_111 : decode cX10_refusesShared 111 = .ok (.aload_n 0, 1) := by decide +kernel
theorem dX10_refusesShared_112 : decode cX10_refusesShared 112 = .ok (.getfield 242, 3) := by decide +kernel
theorem dX10_refusesShared_115 : decode cX10_refusesShared 115 = .ok (.if_icmp .ge 15, 3) := by decide +kernel
theorem dX10_refusesShared_118 : decode cX10_refusesShared 118 = .ok (.aload_n 0, 1) := by decide +kernel
theorem dX10_refusesShared_119 : decode cX10_refusesShared 119 = .ok (.iload 5, 2) := by decide +kernel
theorem dX10_refusesShared_121 : decode cX10_refusesShared 121 = .ok (.putfield 242, 3) := by decide +kernel
theorem dX10_refusesShared_124 : decode cX10_refusesShared 124 = .ok (.aload_n 0, 1) := by decide +kernel
theorem dX10_refusesShared_125 : decode cX10_refusesShared 125 = .ok (.iload 4, 2) := by decide +kernel
theorem dX10_refusesShared_127 : decode cX10_refusesShared 127 = .ok (.putfield 245, 3) := by decide +kernel
theorem dX10_refusesShared_130 : decode cX10_refusesShared 130 = .ok (.iinc 4 1, 3) := by decide +kernel
theorem dX10_refusesShared_133 : decode cX10_refusesShared 133 = .ok (.goto (-64), 3) := by decide +kernel
theorem dX10_refusesShared_136 : decode cX10_refusesShared 136 = .ok (.aload_n 0, 1) := by decide +kernel
theorem dX10_refusesShared_137 : decode cX10_refusesShared 137 = .ok (.getfield 242, 3) := by decide +kernel
theorem dX10_refusesShared_140 : decode cX10_refusesShared 140 = .ok (.ldc 170, 2) := by decide +kernel
theorem dX10_refusesShared_142 : decode cX10_refusesShared 142 = .ok (.if_icmp .lt 8, 3) := by decide +kernel
theorem dX10_refusesShared_145 : decode cX10_refusesShared 145 = .ok (.ldc 160, 2) := by decide +kernel
theorem dX10_refusesShared_147 : decode cX10_refusesShared 147 = .ok (.goto 4, 3) := by decide +kernel
theorem dX10_refusesShared_150 : decode cX10_refusesShared 150 = .ok (.iconst 0, 1) := by decide +kernel
theorem dX10_refusesShared_151 : decode cX10_refusesShared 151 = .ok (.ireturn, 1) := by decide +kernel
theorem dX10_shared_0 : decode cX10_shared 0 = .ok (.aload_n 0, 1) := by decide +kernel
theorem dX10_shared_1 : decode cX10_shared 1 = .ok (.iload_n 1, 1) := by decide +kernel
theorem dX10_shared_2 : decode cX10_shared 2 = .ok (.iload_n 2, 1) := by decide +kernel
theorem dX10_shared_3 : decode cX10_shared 3 = .ok (.iload_n 3, 1) := by decide +kernel
theorem dX10_shared_4 : decode cX10_shared 4 = .ok (.invokevirtual 251, 3) := by decide +kernel
theorem dX10_shared_7 : decode cX10_shared 7 = .ok (.istore 4, 2) := by decide +kernel
theorem dX10_shared_9 : decode cX10_shared 9 = .ok (.iload 4, 2) := by decide +kernel
theorem dX10_shared_11 : decode cX10_shared 11 = .ok (.ifCond .eq 12, 3) := by decide +kernel
theorem dX10_shared_14 : decode cX10_shared 14 = .ok (.aload_n 0, 1) := by decide +kernel
theorem dX10_shared_15 : decode cX10_shared 15 = .ok (.iload 4, 2) := by decide +kernel
theorem dX10_shared_17 : decode cX10_shared 17 = .ok (.invokevirtual 92, 3) := by decide +kernel
theorem dX10_shared_20 : decode cX10_shared 20 = .ok (.goto 7, 3) := by decide +kernel
theorem dX10_shared_23 : decode cX10_shared 23 = .ok (.aload_n 0, 1) := by decide +kernel
theorem dX10_shared_24 : decode cX10_shared 24 = .ok (.getfield 242, 3) := by decide +kernel
theorem dX10_shared_27 : decode cX10_shared 27 = .ok (.ireturn, 1) := by decide +kernel
theorem dX10_part_0 : decode cX10_part 0 = .ok (.aload_n 0, 1) := by decide +kernel
theorem dX10_part_1 : decode cX10_part 1 = .ok (.iload_n 1, 1) := by decide +kernel
theorem dX10_part_2 : decode cX10_part 2 = .ok (.iload_n 2, 1) := by decide +kernel
theorem dX10_part_3 : decode cX10_part 3 = .ok (.iload_n 3, 1) := by decide +kernel
theorem dX10_part_4 : decode cX10_part 4 = .ok (.invokevirtual 251, 3) := by decide +kernel
theorem dX10_part_7 : decode cX10_part 7 = .ok (.istore 4, 2) := by decide +kernel
theorem dX10_part_9 : decode cX10_part 9 = .ok (.iload 4, 2) := by decide +kernel
theorem dX10_part_11 : decode cX10_part 11 = .ok (.ifCond .eq 12, 3) := by decide +kernel
theorem dX10_part_14 : decode cX10_part 14 = .ok (.aload_n 0, 1) := by decide +kernel
theorem dX10_part_15 : decode cX10_part 15 = .ok (.iload 4, 2) := by decide +kernel
theorem dX10_part_17 : decode cX10_part 17 = .ok (.invokevirtual 92, 3) := by decide +kernel
theorem dX10_part_20 : decode cX10_part 20 = .ok (.goto 7, 3) := by decide +kernel
theorem dX10_part_23 : decode cX10_part 23 = .ok (.aload_n 0, 1) := by decide +kernel
theorem dX10_part_24 : decode cX10_part 24 = .ok (.getfield 245, 3) := by decide +kernel
theorem dX10_part_27 : decode cX10_part 27 = .ok (.ireturn, 1) := by decide +kernel
theorem dX10_strength_0 : decode cX10_strength 0 = .ok (.aload_n 0, 1) := by decide +kernel
theorem dX10_strength_1 : decode cX10_strength 1 = .ok (.iload_n 1, 1) := by decide +kernel
theorem dX10_strength_2 : decode cX10_strength 2 = .ok (.iload_n 2, 1) := by decide +kernel
theorem dX10_strength_3 : decode cX10_strength 3 = .ok (.invokevirtual 230, 3) := by decide +kernel
theorem dX10_strength_6 : decode cX10_strength 6 = .ok (.istore_n 3, 1) := by decide +kernel
theorem dX10_strength_7 : decode cX10_strength 7 = .ok (.iload_n 3, 1) := by decide +kernel
theorem dX10_strength_8 : decode cX10_strength 8 = .ok (.ifCond .eq 9, 3) := by decide +kernel
theorem dX10_strength_11 : decode cX10_strength 11 = .ok (.aload_n 0, 1) := by decide +kernel
theorem dX10_strength_12 : decode cX10_strength 12 = .ok (.iload_n 3, 1) := by decide +kernel
theorem dX10_strength_13 : decode cX10_strength 13 = .ok (.invokevirtual 92, 3) := by decide +kernel
theorem dX10_strength_16 : decode cX10_strength 16 = .ok (.ireturn, 1) := by decide +kernel
theorem dX10_strength_17 : decode cX10_strength 17 = .ok (.aload_n 0, 1) := by decide +kernel
theorem dX10_strength_18 : decode cX10_strength 18 = .ok (.iload_n 1, 1) := by decide +kernel
theorem dX10_strength_19 : decode cX10_strength 19 = .ok (.iconst 2, 1) := by decide +kernel
theorem dX10_strength_20 : decode cX10_strength 20 = .ok (.invokevirtual 104, 3) := by decide +kernel
theorem dX10_strength_23 : decode cX10_strength 23 = .ok (.istore 4, 2) := by decide +kernel
theorem dX10_strength_25 : decode cX10_strength 25 = .ok (.iconst 0, 1) := by decide +kernel
theorem dX10_strength_26 : decode cX10_strength 26 = .ok (.istore 5, 2) := by decide +kernel
theorem dX10_strength_28 : decode cX10_strength 28 = .ok (.ldc 170, 2) := by decide +kernel
theorem dX10_strength_30 : decode cX10_strength 30 = .ok (.istore 6, 2) := by decide +kernel
theorem dX10_strength_32 : decode cX10_strength 32 = .ok (.iload 5, 2) := by decide +kernel
theorem dX10_strength_34 : decode cX10_strength 34 = .ok (.bipush 99, 2) := by decide +kernel
theorem dX10_strength_36 : decode cX10_strength 36 = .ok (.if_icmp .ge 36, 3) := by decide +kernel
theorem dX10_strength_39 : decode cX10_strength 39 = .ok (.iload 6, 2) := by decide +kernel
theorem dX10_strength_41 : decode cX10_strength 41 = .ok (.ldc 170, 2) := by decide +kernel
theorem dX10_strength_43 : decode cX10_strength 43 = .ok (.if_icmp .lt 29, 3) := by decide +kernel
theorem dX10_strength_46 : decode cX10_strength 46 = .ok (.iinc 5 1, 3) := by decide +kernel
theorem dX10_strength_49 : decode cX10_strength 49 = .ok (.aload_n 0, 1) := by decide +kernel
theorem dX10_strength_50 : decode cX10_strength 50 = .ok (.getfield 9, 3) := by decide +kernel
theorem dX10_strength_53 : decode cX10_strength 53 = .ok (.iload_n 1, 1) := by decide +kernel
theorem dX10_strength_54 : decode cX10_strength 54 = .ok (.iconst 2, 1) := by decide +kernel
theorem dX10_strength_55 : decode cX10_strength 55 = .ok (.invokestatic 81, 3) := by decide +kernel
theorem dX10_strength_58 : decode cX10_strength 58 = .ok (.iload 5, 2) := by decide +kernel
theorem dX10_strength_60 : decode cX10_strength 60 = .ok (.iastore, 1) := by decide +kernel
theorem dX10_strength_61 : decode cX10_strength 61 = .ok (.aload_n 0, 1) := by decide +kernel
theorem dX10_strength_62 : decode cX10_strength 62 = .ok (.iload_n 1, 1) := by decide +kernel
theorem dX10_strength_63 : decode cX10_strength 63 = .ok (.iload_n 2, 1) := by decide +kernel
theorem dX10_strength_64 : decode cX10_strength 64 = .ok (.invokevirtual 233, 3) := by decide +kernel
theorem dX10_strength_67 : decode cX10_strength 67 = .ok (.istore 6, 2) := by decide +kernel
theorem dX10_strength_69 : decode cX10_strength 69 = .ok (.goto (-37), 3) := by decide +kernel
theorem dX10_strength_72 : decode cX10_strength 72 = .ok (.aload_n 0, 1) := by decide +kernel
theorem dX10_strength_73 : decode cX10_strength 73 = .ok (.getfield 9, 3) := by decide +kernel
theorem dX10_strength_76 : decode cX10_strength 76 = .ok (.iload_n 1, 1) := by decide +kernel
theorem dX10_strength_77 : decode cX10_strength 77 = .ok (.iconst 2, 1) := by decide +kernel
theorem dX10_strength_78 : decode cX10_strength 78 = .ok (.invokestatic 81, 3) := by decide +kernel
theorem dX10_strength_81 : decode cX10_strength 81 = .ok (.iload 4, 2) := by decide +kernel
theorem dX10_strength_83 : decode cX10_strength 83 = .ok (.iastore, 1) := by decide +kernel
theorem dX10_strength_84 : decode cX10_strength 84 = .ok (.iload 6, 2) := by decide +kernel
theorem dX10_strength_86 : decode cX10_strength 86 = .ok (.ldc 170, 2) := by decide +kernel
theorem dX10_strength_88 : decode cX10_strength 88 = .ok (.if_icmp .lt 12, 3) := by decide +kernel
theorem dX10_strength_91 : decode cX10_strength 91 = .ok (.aload_n 0, 1) := by decide +kernel
theorem dX10_strength_92 : decode cX10_strength 92 = .ok (.ldc 160, 2) := by decide +kernel
theorem dX10_strength_94 : decode cX10_strength 94 = .ok (.invokevirtual 92, 3) := by decide +kernel
theorem dX10_strength_97 : decode cX10_strength 97 = .ok (.goto 5, 3) := by decide +kernel
theorem dX10_strength_100 : decode cX10_strength 100 = .ok (.iload 5, 2) := by decide +kernel
theorem dX10_strength_102 : decode cX10_strength 102 = .ok (.ireturn, 1) := by decide +kernel
theorem dX10_kindFor_0 : decode cX10_kindFor 0 = .ok (.aload_n 0, 1) := by decide +kernel
theorem dX10_kindFor_1 : decode cX10_kindFor 1 = .ok (.iload_n 1, 1) := by decide +kernel
theorem dX10_kindFor_2 : decode cX10_kindFor 2 = .ok (.iload_n 2, 1) := by decide +kernel
theorem dX10_kindFor_3 : decode cX10_kindFor 3 = .ok (.invokevirtual 230, 3) := by decide +kernel
theorem dX10_kindFor_6 : decode cX10_kindFor 6 = .ok (.istore_n 3, 1) := by decide +kernel
theorem dX10_kindFor_7 : decode cX10_kindFor 7 = .ok (.iload_n 3, 1) := by decide +kernel
theorem dX10_kindFor_8 : decode cX10_kindFor 8 = .ok (.ifCond .eq 9, 3) := by decide +kernel
theorem dX10_kindFor_11 : decode cX10_kindFor 11 = .ok (.aload_n 0, 1) := by decide +kernel
theorem dX10_kindFor_12 : decode cX10_kindFor 12 = .ok (.iload_n 3, 1) := by decide +kernel
theorem dX10_kindFor_13 : decode cX10_kindFor 13 = .ok (.invokevirtual 92, 3) := by decide +kernel
theorem dX10_kindFor_16 : decode cX10_kindFor 16 = .ok (.ireturn, 1) := by decide +kernel
theorem dX10_kindFor_17 : decode cX10_kindFor 17 = .ok (.aload_n 0, 1) := by decide +kernel
theorem dX10_kindFor_18 : decode cX10_kindFor 18 = .ok (.iload_n 1, 1) := by decide +kernel
theorem dX10_kindFor_19 : decode cX10_kindFor 19 = .ok (.iconst 0, 1) := by decide +kernel
theorem dX10_kindFor_20 : decode cX10_kindFor 20 = .ok (.invokevirtual 104, 3) := by decide +kernel
theorem dX10_kindFor_23 : decode cX10_kindFor 23 = .ok (.istore 4, 2) := by decide +kernel
theorem dX10_kindFor_25 : decode cX10_kindFor 25 = .ok (.iconst (-1), 1) := by decide +kernel
theorem dX10_kindFor_26 : decode cX10_kindFor 26 = .ok (.istore 5, 2) := by decide +kernel
theorem dX10_kindFor_28 : decode cX10_kindFor 28 = .ok (.ldc 170, 2) := by decide +kernel
theorem dX10_kindFor_30 : decode cX10_kindFor 30 = .ok (.istore 6, 2) := by decide +kernel
theorem dX10_kindFor_32 : decode cX10_kindFor 32 = .ok (.iconst 0, 1) := by decide +kernel
theorem dX10_kindFor_33 : decode cX10_kindFor 33 = .ok (.istore 7, 2) := by decide +kernel
theorem dX10_kindFor_35 : decode cX10_kindFor 35 = .ok (.iload 7, 2) := by decide +kernel
theorem dX10_kindFor_37 : decode cX10_kindFor 37 = .ok (.bipush 6, 2) := by decide +kernel
theorem dX10_kindFor_39 : decode cX10_kindFor 39 = .ok (.if_icmp .gt 54, 3) := by decide +kernel
theorem dX10_kindFor_42 : decode cX10_kindFor 42 = .ok (.aload_n 0, 1) := by decide +kernel
theorem dX10_kindFor_43 : decode cX10_kindFor 43 = .ok (.getfield 9, 3) := by decide +kernel
theorem dX10_kindFor_46 : decode cX10_kindFor 46 = .ok (.iload_n 1, 1) := by decide +kernel
theorem dX10_kindFor_47 : decode cX10_kindFor 47 = .ok (.iconst 0, 1) := by decide +kernel
theorem dX10_kindFor_48 : decode cX10_kindFor 48 = .ok (.invokestatic 81, 3) := by decide +kernel
theorem dX10_kindFor_51 : decode cX10_kindFor 51 = .ok (.iload 7, 2) := by decide +kernel
theorem dX10_kindFor_53 : decode cX10_kindFor 53 = .ok (.iastore, 1) := by decide +kernel
theorem dX10_kindFor_54 : decode cX10_kindFor 54 = .ok (.aload_n 0, 1) := by decide +kernel
theorem dX10_kindFor_55 : decode cX10_kindFor 55 = .ok (.iload_n 1, 1) := by decide +kernel
theorem dX10_kindFor_56 : decode cX10_kindFor 56 = .ok (.iload_n 2, 1) := by decide +kernel
theorem dX10_kindFor_57 : decode cX10_kindFor 57 = .ok (.invokevirtual 233, 3) := by decide +kernel
theorem dX10_kindFor_60 : decode cX10_kindFor 60 = .ok (.istore 8, 2) := by decide +kernel
theorem dX10_kindFor_62 : decode cX10_kindFor 62 = .ok (.iload 8, 2) := by decide +kernel
theorem dX10_kindFor_64 : decode cX10_kindFor 64 = .ok (.iload 6, 2) := by decide +kernel
theorem dX10_kindFor_66 : decode cX10_kindFor 66 = .ok (.if_icmp .ge 8, 3) := by decide +kernel
theorem dX10_kindFor_69 : decode cX10_kindFor 69 = .ok (.iload 7, 2) := by decide +kernel
theorem dX10_kindFor_71 : decode cX10_kindFor 71 = .ok (.goto 5, 3) := by decide +kernel
theorem dX10_kindFor_74 : decode cX10_kindFor 74 = .ok (.iload 5, 2) := by decide +kernel
theorem dX10_kindFor_76 : decode cX10_kindFor 76 = .ok (.istore 5, 2) := by decide +kernel
theorem dX10_kindFor_78 : decode cX10_kindFor 78 = .ok (.iload 6, 2) := by decide +kernel
theorem dX10_kindFor_80 : decode cX10_kindFor 80 = .ok (.iload 8, 2) := by decide +kernel
theorem dX10_kindFor_82 : decode cX10_kindFor 82 = .ok (.invokestatic 136, 3) := by decide +kernel
theorem dX10_kindFor_85 : decode cX10_kindFor 85 = .ok (.istore 6, 2) := by decide +kernel
theorem dX10_kindFor_87 : decode cX10_kindFor 87 = .ok (.iinc 7 1, 3) := by decide +kernel
theorem dX10_kindFor_90 : decode cX10_kindFor 90 = .ok (.goto (-55), 3) := by decide +kernel
theorem dX10_kindFor_93 : decode cX10_kindFor 93 = .ok (.aload_n 0, 1) := by decide +kernel
theorem dX10_kindFor_94 : decode cX10_kindFor 94 = .ok (.getfield 9, 3) := by decide +kernel
theorem dX10_kindFor_97 : decode cX10_kindFor 97 = .ok (.iload_n 1, 1) := by decide +kernel
theorem dX10_kindFor_98 : decode cX10_kindFor 98 = .ok (.iconst 0, 1) := by decide +kernel
theorem dX10_kindFor_99 : decode cX10_kindFor 99 = .ok (.invokestatic 81, 3) := by decide +kernel
theorem dX10_kindFor_102 : decode cX10_kindFor 102 = .ok (.iload 4, 2) := by decide +kernel
theorem dX10_kindFor_104 : decode cX10_kindFor 104 = .ok (.iastore, 1) := by decide +kernel
theorem dX10_kindFor_105 : decode cX10_kindFor 105 = .ok (.iload 5, 2) := by decide +kernel
theorem dX10_kindFor_107 : decode cX10_kindFor 107 = .ok (.ifCond .ge 12, 3) := by decide +kernel
theorem dX10_kindFor_110 : decode cX10_kindFor 110 = .ok (.aload_n 0, 1) := by decide +kernel
theorem dX10_kindFor_111 : decode cX10_kindFor 111 = .ok (.ldc 160, 2) := by decide +kernel
theorem dX10_kindFor_113 : decode cX10_kindFor 113 = .ok (.invokevirtual 92, 3) := by decide +kernel
theorem dX10_kindFor_116 : decode cX10_kindFor 116 = .ok (.goto 5, 3) := by decide +kernel
theorem dX10_kindFor_119 : decode cX10_kindFor 119 = .ok (.iload 5, 2) := by decide +kernel
theorem dX10_kindFor_121 : decode cX10_kindFor 121 = .ok (.ireturn, 1) := by decide +kernel
theorem dX10_refusesBridge_0 : decode cX10_refusesBridge 0 = .ok (.aload_n 0, 1) := by decide +kernel
theorem dX10_refusesBridge_1 : decode cX10_refusesBridge 1 = .ok (.iload_n 1, 1) := by decide +kernel
theorem dX10_refusesBridge_2 : decode cX10_refusesBridge 2 = .ok (.iload_n 2, 1) := by decide +kernel
theorem dX10_refusesBridge_3 : decode cX10_refusesBridge 3 = .ok (.invokevirtual 230, 3) := by decide +kernel
theorem dX10_refusesBridge_6 : decode cX10_refusesBridge 6 = .ok (.istore_n 3, 1) := by decide +kernel
theorem dX10_refusesBridge_7 : decode cX10_refusesBridge 7 = .ok (.iload_n 3, 1) := by decide +kernel
theorem dX10_refusesBridge_8 : decode cX10_refusesBridge 8 = .ok (.ifCond .eq 5, 3) := by decide +kernel
theorem dX10_refusesBridge_11 : decode cX10_refusesBridge 11 = .ok (.iload_n 3, 1) := by decide +kernel
theorem dX10_refusesBridge_12 : decode cX10_refusesBridge 12 = .ok (.ireturn, 1) := by decide +kernel
theorem dX10_refusesBridge_13 : decode cX10_refusesBridge 13 = .ok (.aload_n 0, 1) := by decide +kernel
theorem dX10_refusesBridge_14 : decode cX10_refusesBridge 14 = .ok (.ldc 170, 2) := by decide +kernel
theorem dX10_refusesBridge_16 : decode cX10_refusesBridge 16 = .ok (.putfield 242, 3) := by decide +kernel
theorem dX10_refusesBridge_19 : decode cX10_refusesBridge 19 = .ok (.iconst 0, 1) := by decide +kernel
theorem dX10_refusesBridge_20 : decode cX10_refusesBridge 20 = .ok (.istore 4, 2) := by decide +kernel
theorem dX10_refusesBridge_22 : decode cX10_refusesBridge 22 = .ok (.iload 4, 2) := by decide +kernel
theorem dX10_refusesBridge_24 : decode cX10_refusesBridge 24 = .ok (.bipush 7, 2) := by decide +kernel
theorem dX10_refusesBridge_26 : decode cX10_refusesBridge 26 = .ok (.if_icmp .ge 140, 3) := by decide +kernel
theorem dX10_refusesBridge_29 : decode cX10_refusesBridge 29 = .ok (.iload 4, 2) := by decide +kernel
theorem dX10_refusesBridge_31 : decode cX10_refusesBridge 31 = .ok (.iconst 1, 1) := by decide +kernel
theorem dX10_refusesBridge_32 : decode cX10_refusesBridge 32 = .ok (.iadd, 1) := by decide +kernel
theorem dX10_refusesBridge_33 : decode cX10_refusesBridge 33 = .ok (.istore 5, 2) := by decide +kernel
theorem dX10_refusesBridge_35 : decode cX10_refusesBridge 35 = .ok (.iload 5, 2) := by decide +kernel
theorem dX10_refusesBridge_37 : decode cX10_refusesBridge 37 = .ok (.bipush 7, 2) := by decide +kernel
theorem dX10_refusesBridge_39 : decode cX10_refusesBridge 39 = .ok (.if_icmp .ge 121, 3) := by decide +kernel
theorem dX10_refusesBridge_42 : decode cX10_refusesBridge 42 = .ok (.aload_n 0, 1) := by decide +kernel
theorem dX10_refusesBridge_43 : decode cX10_refusesBridge 43 = .ok (.getfield 9, 3) := by decide +kernel
theorem dX10_refusesBridge_46 : decode cX10_refusesBridge 46 = .ok (.iload 4, 2) := by decide +kernel
theorem dX10_refusesBridge_48 : decode cX10_refusesBridge 48 = .ok (.iload 5, 2) := by decide +kernel
theorem dX10_refusesBridge_50 : decode cX10_refusesBridge 50 = .ok (.invokestatic 144, 3) := by decide +kernel
theorem dX10_refusesBridge_53 : decode cX10_refusesBridge 53 = .ok (.iaload, 1) := by decide +kernel
theorem dX10_refusesBridge_54 : decode cX10_refusesBridge 54 = .ok (.ifCond .le 100, 3) := by decide +kernel
theorem dX10_refusesBridge_57 : decode cX10_refusesBridge 57 = .ok (.aload_n 0, 1) := by decide +kernel
theorem dX10_refusesBridge_58 : decode cX10_refusesBridge 58 = .ok (.getfield 9, 3) := by decide +kernel
theorem dX10_refusesBridge_61 : decode cX10_refusesBridge 61 = .ok (.iload 4, 2) := by decide +kernel
theorem dX10_refusesBridge_63 : decode cX10_refusesBridge 63 = .ok (.iload 5, 2) := by decide +kernel
theorem dX10_refusesBridge_65 : decode cX10_refusesBridge 65 = .ok (.invokestatic 144, 3) := by decide +kernel
theorem dX10_refusesBridge_68 : decode cX10_refusesBridge 68 = .ok (.iconst 1, 1) := by decide +kernel
theorem dX10_refusesBridge_69 : decode cX10_refusesBridge 69 = .ok (.iadd, 1) := by decide +kernel
theorem dX10_refusesBridge_70 : decode cX10_refusesBridge 70 = .ok (.iaload, 1) := by decide +kernel
theorem dX10_refusesBridge_71 : decode cX10_refusesBridge 71 = .ok (.iconst 1, 1) := by decide +kernel
theorem dX10_refusesBridge_72 : decode cX10_refusesBridge 72 = .ok (.if_icmp .ne 82, 3) := by decide +kernel
theorem dX10_refusesBridge_75 : decode cX10_refusesBridge 75 = .ok (.aload_n 0, 1) := by decide +kernel
theorem dX10_refusesBridge_76 : decode cX10_refusesBridge 76 = .ok (.getfield 9, 3) := by decide +kernel
theorem dX10_refusesBridge_79 : decode cX10_refusesBridge 79 = .ok (.iload 4, 2) := by decide +kernel
theorem dX10_refusesBridge_81 : decode cX10_refusesBridge 81 = .ok (.iload 5, 2) := by decide +kernel
theorem dX10_refusesBridge_83 : decode cX10_refusesBridge 83 = .ok (.invokestatic 144, 3) := by decide +kernel
theorem dX10_refusesBridge_86 : decode cX10_refusesBridge 86 = .ok (.iconst 1, 1) := by decide +kernel
theorem dX10_refusesBridge_87 : decode cX10_refusesBridge 87 = .ok (.iadd, 1) := by decide +kernel
theorem dX10_refusesBridge_88 : decode cX10_refusesBridge 88 = .ok (.iconst 0, 1) := by decide +kernel
theorem dX10_refusesBridge_89 : decode cX10_refusesBridge 89 = .ok (.iastore, 1) := by decide +kernel
theorem dX10_refusesBridge_90 : decode cX10_refusesBridge 90 = .ok (.aload_n 0, 1) := by decide +kernel
theorem dX10_refusesBridge_91 : decode cX10_refusesBridge 91 = .ok (.iload_n 1, 1) := by decide +kernel
theorem dX10_refusesBridge_92 : decode cX10_refusesBridge 92 = .ok (.iload_n 2, 1) := by decide +kernel
theorem dX10_refusesBridge_93 : decode cX10_refusesBridge 93 = .ok (.invokevirtual 233, 3) := by decide +kernel
theorem dX10_refusesBridge_96 : decode cX10_refusesBridge 96 = .ok (.istore 6, 2) := by decide +kernel
theorem dX10_refusesBridge_98 : decode cX10_refusesBridge 98 = .ok (.aload_n 0, 1) := by decide +kernel
theorem dX10_refusesBridge_99 : decode cX10_refusesBridge 99 = .ok (.getfield 9, 3) := by decide +kernel
theorem dX10_refusesBridge_102 : decode cX10_refusesBridge 102 = .ok (.iload 4, 2) := by decide +kernel
theorem dX10_refusesBridge_104 : decode cX10_refusesBridge 104 = .ok (.iload 5, 2) := by decide +kernel
theorem dX10_refusesBridge_106 : decode cX10_refusesBridge 106 = .ok (.invokestatic 144, 3) := by decide +kernel
theorem dX10_refusesBridge_109 : decode cX10_refusesBridge 109 = .ok (.iconst 1, 1) := by decide +kernel
theorem dX10_refusesBridge_110 : decode cX10_refusesBridge 110 = .ok (.iadd, 1) := by decide +kernel
theorem dX10_refusesBridge_111 : decode cX10_refusesBridge 111 = .ok (.iconst 1, 1) := by decide +kernel
theorem dX10_refusesBridge_112 : decode cX10_refusesBridge 112 = .ok (.iastore, 1) := by decide +kernel
theorem dX10_refusesBridge_113 : decode cX10_refusesBridge 113 = .ok (.aload_n 0, 1) := by decide +kernel
theorem dX10_refusesBridge_114 : decode cX10_refusesBridge 114 = .ok (.iload 6, 2) := by decide +kernel
theorem dX10_refusesBridge_116 : decode cX10_refusesBridge 116 = .ok (.aload_n 0, 1) := by decide +kernel
theorem dX10_refusesBridge_117 : decode cX10_refusesBridge 117 = .ok (.getfield 242, 3) := by decide +kernel
theorem dX10_refusesBridge_120 : decode cX10_refusesBridge 120 = .ok (.if_icmp .ge 14, 3) := by decide +kernel
theorem dX10_refusesBridge_123 : decode cX10_refusesBridge 123 = .ok (.bipush 10, 2) := by decide +kernel
theorem dX10_refusesBridge_125 : decode cX10_refusesBridge 125 = .ok (.iload 4, 2) := by decide +kernel
theorem dX10_refusesBridge_127 : decode cX10_refusesBridge 127 = .ok (.imul, 1) := by decide +kernel
theorem dX10_refusesBridge_128 : decode cX10_refusesBridge 128 = .ok (.iload 5, 2) := by decide +kernel
theorem dX10_refusesBridge_130 : decode cX10_refusesBridge 130 = .ok (.iadd, 1) := by decide +kernel
theorem dX10_refusesBridge_131 : decode cX10_refusesBridge 131 = .ok (.goto 7, 3) := by decide +kernel
theorem dX10_refusesBridge_134 : decode cX10_refusesBridge 134 = .ok (.aload_n 0, 1) := by decide +kernel
theorem dX10_refusesBridge_135 : decode cX10_refusesBridge 135 = .ok (.getfield 254, 3) := by decide +kernel
theorem dX10_refusesBridge_138 : decode cX10_refusesBridge 138 = .ok (.putfield 254, 3) := by decide +kernel
theorem dX10_refusesBridge_141 : decode cX10_refusesBridge 141 = .ok (.aload_n 0, 1) := by decide +kernel
theorem dX10_refusesBridge_142 : decode cX10_refusesBridge 142 = .ok (.aload_n 0, 1) := by decide +kernel
theorem dX10_refusesBridge_143 : decode cX10_refusesBridge 143 = .ok (.getfield 242, 3) := by decide +kernel
theorem dX10_refusesBridge_146 : decode cX10_refusesBridge 146 = .ok (.iload 6, 2) := by decide +kernel
theorem dX10_refusesBridge_148 : decode cX10_refusesBridge 148 = .ok (.invokestatic 136, 3) := by decide +kernel
theorem dX10_refusesBridge_151 : decode cX10_refusesBridge 151 = .ok (.putfield 242, 3) := by decide +kernel
theorem dX10_refusesBridge_154 : decode cX10_refusesBridge 154 = .ok (.iinc 5 1, 3) := by decide +kernel
theorem dX10_refusesBridge_157 : decode cX10_refusesBridge 157 = .ok (.goto (-122), 3) := by decide +kernel
theorem dX10_refusesBridge_160 : decode cX10_refusesBridge 160 = .ok (.iinc 4 1, 3) := by decide +kernel
theorem dX10_refusesBridge_163 : decode cX10_refusesBridge 163 = .ok (.goto (-141), 3) := by decide +kernel
theorem dX10_refusesBridge_166 : decode cX10_refusesBridge 166 = .ok (.aload_n 0, 1) := by decide +kernel
theorem dX10_refusesBridge_167 : decode cX10_refusesBridge 167 = .ok (.getfield 242, 3) := by decide +kernel
theorem dX10_refusesBridge_170 : decode cX10_refusesBridge 170 = .ok (.ldc 170, 2) := by decide +kernel
theorem dX10_refusesBridge_172 : decode cX10_refusesBridge 172 = .ok (.if_icmp .lt 8, 3) := by decide +kernel
theorem dX10_refusesBridge_175 : decode cX10_refusesBridge 175 = .ok (.ldc 160, 2) := by decide +kernel
theorem dX10_refusesBridge_177 : decode cX10_refusesBridge 177 = .ok (.goto 4, 3) := by decide +kernel
theorem dX10_refusesBridge_180 : decode cX10_refusesBridge 180 = .ok (.iconst 0, 1) := by decide +kernel
theorem dX10_refusesBridge_181 : decode cX10_refusesBridge 181 = .ok (.ireturn, 1) := by decide +kernel
theorem dX10_bridge_0 : decode cX10_bridge 0 = .ok (.aload_n 0, 1) := by decide +kernel
theorem dX10_bridge_1 : decode cX10_bridge 1 = .ok (.iload_n 1, 1) := by decide +kernel
theorem dX10_bridge_2 : decode cX10_bridge 2 = .ok (.iload_n 2, 1) := by decide +kernel
theorem dX10_bridge_3 : decode cX10_bridge 3 = .ok (.invokevirtual 257, 3) := by decide +kernel
theorem dX10_bridge_6 : decode cX10_bridge 6 = .ok (.istore_n 3, 1) := by decide +kernel
theorem dX10_bridge_7 : decode cX10_bridge 7 = .ok (.iload_n 3, 1) := by decide +kernel
theorem dX10_bridge_8 : decode cX10_bridge 8 = .ok (.ifCond .eq 11, 3) := by decide +kernel
theorem dX10_bridge_11 : decode cX10_bridge 11 = .ok (.aload_n 0, 1) := by decide +kernel
theorem dX10_bridge_12 : decode cX10_bridge 12 = .ok (.iload_n 3, 1) := by decide +kernel
theorem dX10_bridge_13 : decode cX10_bridge 13 = .ok (.invokevirtual 92, 3) := by decide +kernel
theorem dX10_bridge_16 : decode cX10_bridge 16 = .ok (.goto 7, 3) := by decide +kernel
theorem dX10_bridge_19 : decode cX10_bridge 19 = .ok (.aload_n 0, 1) := by decide +kernel
theorem dX10_bridge_20 : decode cX10_bridge 20 = .ok (.getfield 254, 3) := by decide +kernel
theorem dX10_bridge_23 : decode cX10_bridge 23 = .ok (.ireturn, 1) := by decide +kernel
theorem dX10_worth_0 : decode cX10_worth 0 = .ok (.aload_n 0, 1) := by decide +kernel
theorem dX10_worth_1 : decode cX10_worth 1 = .ok (.iload_n 1, 1) := by decide +kernel
theorem dX10_worth_2 : decode cX10_worth 2 = .ok (.iload_n 2, 1) := by decide +kernel
theorem dX10_worth_3 : decode cX10_worth 3 = .ok (.invokevirtual 257, 3) := by decide +kernel
theorem dX10_worth_6 : decode cX10_worth 6 = .ok (.istore_n 3, 1) := by decide +kernel
theorem dX10_worth_7 : decode cX10_worth 7 = .ok (.iload_n 3, 1) := by decide +kernel
theorem dX10_worth_8 : decode cX10_worth 8 = .ok (.ifCond .eq 9, 3) := by decide +kernel
theorem dX10_worth_11 : decode cX10_worth 11 = .ok (.aload_n 0, 1) := by decide +kernel
theorem dX10_worth_12 : decode cX10_worth 12 = .ok (.iload_n 3, 1) := by decide +kernel
theorem dX10_worth_13 : decode cX10_worth 13 = .ok (.invokevirtual 92, 3) := by decide +kernel
theorem dX10_worth_16 : decode cX10_worth 16 = .ok (.ireturn, 1) := by decide +kernel
theorem dX10_worth_17 : decode cX10_worth 17 = .ok (.aload_n 0, 1) := by decide +kernel
theorem dX10_worth_18 : decode cX10_worth 18 = .ok (.iload_n 1, 1) := by decide +kernel
theorem dX10_worth_19 : decode cX10_worth 19 = .ok (.iload_n 2, 1) := by decide +kernel
theorem dX10_worth_20 : decode cX10_worth 20 = .ok (.invokevirtual 233, 3) := by decide +kernel
theorem dX10_worth_23 : decode cX10_worth 23 = .ok (.istore 4, 2) := by decide +kernel
theorem dX10_worth_25 : decode cX10_worth 25 = .ok (.iload 4, 2) := by decide +kernel
theorem dX10_worth_27 : decode cX10_worth 27 = .ok (.ldc 170, 2) := by decide +kernel
theorem dX10_worth_29 : decode cX10_worth 29 = .ok (.if_icmp .lt 12, 3) := by decide +kernel
theorem dX10_worth_32 : decode cX10_worth 32 = .ok (.aload_n 0, 1) := by decide +kernel
theorem dX10_worth_33 : decode cX10_worth 33 = .ok (.ldc 160, 2) := by decide +kernel
theorem dX10_worth_35 : decode cX10_worth 35 = .ok (.invokevirtual 92, 3) := by decide +kernel
theorem dX10_worth_38 : decode cX10_worth 38 = .ok (.goto 10, 3) := by decide +kernel
theorem dX10_worth_41 : decode cX10_worth 41 = .ok (.iload 4, 2) := by decide +kernel
theorem dX10_worth_43 : decode cX10_worth 43 = .ok (.aload_n 0, 1) := by decide +kernel
theorem dX10_worth_44 : decode cX10_worth 44 = .ok (.getfield 242, 3) := by decide +kernel
theorem dX10_worth_47 : decode cX10_worth 47 = .ok (.isub, 1) := by decide +kernel
theorem dX10_worth_48 : decode cX10_worth 48 = .ok (.ireturn, 1) := by decide +kernel
theorem dX10_reach_0 : decode cX10_reach 0 = .ok (.aload_n 0, 1) := by decide +kernel
theorem dX10_reach_1 : decode cX10_reach 1 = .ok (.iload_n 1, 1) := by decide +kernel
theorem dX10_reach_2 : decode cX10_reach 2 = .ok (.invokevirtual 117, 3) := by decide +kernel
theorem dX10_reach_5 : decode cX10_reach 5 = .ok (.ifCond .ne 10, 3) := by decide +kernel
theorem dX10_reach_8 : decode cX10_reach 8 = .ok (.aload_n 0, 1) := by decide +kernel
theorem dX10_reach_9 : decode cX10_reach 9 = .ok (.ldc 72, 2) := by decide +kernel
theorem dX10_reach_11 : decode cX10_reach 11 = .ok (.invokevirtual 92, 3) := by decide +kernel
theorem dX10_reach_14 : decode cX10_reach 14 = .ok (.ireturn, 1) := by decide +kernel
theorem dX10_reach_15 : decode cX10_reach 15 = .ok (.aload_n 0, 1) := by decide +kernel
theorem dX10_reach_16 : decode cX10_reach 16 = .ok (.aload_n 0, 1) := by decide +kernel
theorem dX10_reach_17 : decode cX10_reach 17 = .ok (.iload_n 1, 1) := by decide +kernel
theorem dX10_reach_18 : decode cX10_reach 18 = .ok (.iconst 0, 1) := by decide +kernel
theorem dX10_reach_19 : decode cX10_reach 19 = .ok (.invokevirtual 104, 3) := by decide +kernel
theorem dX10_reach_22 : decode cX10_reach 22 = .ok (.invokevirtual 174, 3) := by decide +kernel
theorem dX10_reach_25 : decode cX10_reach 25 = .ok (.iconst 0, 1) := by decide +kernel
theorem dX10_reach_26 : decode cX10_reach 26 = .ok (.istore_n 2, 1) := by decide +kernel
theorem dX10_reach_27 : decode cX10_reach 27 = .ok (.iconst 0, 1) := by decide +kernel
theorem dX10_reach_28 : decode cX10_reach 28 = .ok (.istore_n 3, 1) := by decide +kernel
theorem dX10_reach_29 : decode cX10_reach 29 = .ok (.iload_n 3, 1) := by decide +kernel
theorem dX10_reach_30 : decode cX10_reach 30 = .ok (.bipush 7, 2) := by decide +kernel
theorem dX10_reach_32 : decode cX10_reach 32 = .ok (.if_icmp .ge 40, 3) := by decide +kernel
theorem dX10_reach_35 : decode cX10_reach 35 = .ok (.iload_n 2, 1) := by decide +kernel
theorem dX10_reach_36 : decode cX10_reach 36 = .ok (.aload_n 0, 1) := by decide +kernel
theorem dX10_reach_37 : decode cX10_reach 37 = .ok (.getfield 22, 3) := by decide +kernel
theorem dX10_reach_40 : decode cX10_reach 40 = .ok (.bipush 7, 2) := by decide +kernel
theorem dX10_reach_42 : decode cX10_reach 42 = .ok (.aload_n 0, 1) := by decide +kernel
theorem dX10_reach_43 : decode cX10_reach 43 = .ok (.iload_n 1, 1) := by decide +kernel
theorem dX10_reach_44 : decode cX10_reach 44 = .ok (.iconst 1, 1) := by decide +kernel
theorem dX10_reach_45 : decode cX10_reach 45 = .ok (.invokevirtual 104, 3) := by decide +kernel
theorem dX10_reach_48 : decode cX10_reach 48 = .ok (.imul, 1) := by decide +kernel
theorem dX10_reach_49 : decode cX10_reach 49 = .ok (.iload_n 3, 1) := by decide +kernel
theorem dX10_reach_50 : decode cX10_reach 50 = .ok (.iadd, 1) := by decide +kernel
theorem dX10_reach_51 : decode cX10_reach 51 = .ok (.iaload, 1) := by decide +kernel
theorem dX10_reach_52 : decode cX10_reach 52 = .ok (.ldc 170, 2) := by decide +kernel
theorem dX10_reach_54 : decode cX10_reach 54 = .ok (.if_icmp .ge 9, 3) := by decide +kernel
theorem dX10_reach_57 : decode cX10_reach 57 = .ok (.iconst 1, 1) := by decide +kernel
theorem dX10_reach_58 : decode cX10_reach 58 = .ok (.iload_n 3, 1) := by decide +kernel
theorem dX10_reach_59 : decode cX10_reach 59 = .ok (.ishl, 1) := by decide +kernel
theorem dX10_reach_60 : decode cX10_reach 60 = .ok (.goto 4, 3) := by decide +kernel
theorem dX10_reach_63 : decode cX10_reach 63 = .ok (.iconst 0, 1) := by decide +kernel
theorem dX10_reach_64 : decode cX10_reach 64 = .ok (.ior, 1) := by decide +kernel
theorem dX10_reach_65 : decode cX10_reach 65 = .ok (.istore_n 2, 1) := by decide +kernel
theorem dX10_reach_66 : decode cX10_reach 66 = .ok (.iinc 3 1, 3) := by decide +kernel
theorem dX10_reach_69 : decode cX10_reach 69 = .ok (.goto (-40), 3) := by decide +kernel
theorem dX10_reach_72 : decode cX10_reach 72 = .ok (.iload_n 2, 1) := by decide +kernel
theorem dX10_reach_73 : decode cX10_reach 73 = .ok (.ireturn, 1) := by decide +kernel
theorem dX10_middle_0 : decode cX10_middle 0 = .ok (.aload_n 0, 1) := by decide +kernel
theorem dX10_middle_1 : decode cX10_middle 1 = .ok (.iload_n 1, 1) := by decide +kernel
theorem dX10_middle_2 : decode cX10_middle 2 = .ok (.invokevirtual 117, 3) := by decide +kernel
theorem dX10_middle_5 : decode cX10_middle 5 = .ok (.ifCond .ne 10, 3) := by decide +kernel
theorem dX10_middle_8 : decode cX10_middle 8 = .ok (.aload_n 0, 1) := by decide +kernel
theorem dX10_middle_9 : decode cX10_middle 9 = .ok (.ldc 72, 2) := by decide +kernel
theorem dX10_middle_11 : decode cX10_middle 11 = .ok (.invokevirtual 92, 3) := by decide +kernel
theorem dX10_middle_14 : decode cX10_middle 14 = .ok (.ireturn, 1) := by decide +kernel
theorem dX10_middle_15 : decode cX10_middle 15 = .ok (.aload_n 0, 1) := by decide +kernel
theorem dX10_middle_16 : decode cX10_middle 16 = .ok (.aload_n 0, 1) := by decide +kernel
theorem dX10_middle_17 : decode cX10_middle 17 = .ok (.iload_n 1, 1) := by decide +kernel
theorem dX10_middle_18 : decode cX10_middle 18 = .ok (.iconst 0, 1) := by decide +kernel
theorem dX10_middle_19 : decode cX10_middle 19 = .ok (.invokevirtual 104, 3) := by decide +kernel
theorem dX10_middle_22 : decode cX10_middle 22 = .ok (.invokevirtual 174, 3) := by decide +kernel
theorem dX10_middle_25 : decode cX10_middle 25 = .ok (.iconst 0, 1) := by decide +kernel
theorem dX10_middle_26 : decode cX10_middle 26 = .ok (.istore_n 2, 1) := by decide +kernel
theorem dX10_middle_27 : decode cX10_middle 27 = .ok (.iconst 0, 1) := by decide +kernel
theorem dX10_middle_28 : decode cX10_middle 28 = .ok (.istore_n 3, 1) := by decide +kernel
theorem dX10_middle_29 : decode cX10_middle 29 = .ok (.iload_n 3, 1) := by decide +kernel
theorem dX10_middle_30 : decode cX10_middle 30 = .ok (.bipush 7, 2) := by decide +kernel
theorem dX10_middle_32 : decode cX10_middle 32 = .ok (.if_icmp .ge 55, 3) := by decide +kernel
theorem dX10_middle_35 : decode cX10_middle 35 = .ok (.iconst 0, 1) := by decide +kernel
theorem dX10_middle_36 : decode cX10_middle 36 = .ok (.istore 4, 2) := by decide +kernel
theorem dX10_middle_38 : decode cX10_middle 38 = .ok (.iload 4, 2) := by decide +kernel
theorem dX10_middle_40 : decode cX10_middle 40 = .ok (.bipush 7, 2) := by decide +kernel
theorem dX10_middle_42 : decode cX10_middle 42 = .ok (.if_icmp .ge 39, 3) := by decide +kernel
theorem dX10_middle_45 : decode cX10_middle 45 = .ok (.iload_n 2, 1) := by decide +kernel
theorem dX10_middle_46 : decode cX10_middle 46 = .ok (.iload_n 3, 1) := by decide +kernel
theorem dX10_middle_47 : decode cX10_middle 47 = .ok (.iload 4, 2) := by decide +kernel
theorem dX10_middle_49 : decode cX10_middle 49 = .ok (.if_icmp .eq 23, 3) := by decide +kernel
theorem dX10_middle_52 : decode cX10_middle 52 = .ok (.aload_n 0, 1) := by decide +kernel
theorem dX10_middle_53 : decode cX10_middle 53 = .ok (.getfield 9, 3) := by decide +kernel
theorem dX10_middle_56 : decode cX10_middle 56 = .ok (.iload_n 3, 1) := by decide +kernel
theorem dX10_middle_57 : decode cX10_middle 57 = .ok (.iload 4, 2) := by decide +kernel
theorem dX10_middle_59 : decode cX10_middle 59 = .ok (.invokestatic 144, 3) := by decide +kernel
theorem dX10_middle_62 : decode cX10_middle 62 = .ok (.iaload, 1) := by decide +kernel
theorem dX10_middle_63 : decode cX10_middle 63 = .ok (.ifCond .le 9, 3) := by decide +kernel
theorem dX10_middle_66 : decode cX10_middle 66 = .ok (.iconst 1, 1) := by decide +kernel
theorem dX10_middle_67 : decode cX10_middle 67 = .ok (.iload_n 3, 1) := by decide +kernel
theorem dX10_middle_68 : decode cX10_middle 68 = .ok (.ishl, 1) := by decide +kernel
theorem dX10_middle_69 : decode cX10_middle 69 = .ok (.goto 4, 3) := by decide +kernel
theorem dX10_middle_72 : decode cX10_middle 72 = .ok (.iconst 0, 1) := by decide +kernel
theorem dX10_middle_73 : decode cX10_middle 73 = .ok (.ior, 1) := by decide +kernel
theorem dX10_middle_74 : decode cX10_middle 74 = .ok (.istore_n 2, 1) := by decide +kernel
theorem dX10_middle_75 : decode cX10_middle 75 = .ok (.iinc 4 1, 3) := by decide +kernel
theorem dX10_middle_78 : decode cX10_middle 78 = .ok (.goto (-40), 3) := by decide +kernel
theorem dX10_middle_81 : decode cX10_middle 81 = .ok (.iinc 3 1, 3) := by decide +kernel
theorem dX10_middle_84 : decode cX10_middle 84 = .ok (.goto (-55), 3) := by decide +kernel
theorem dX10_middle_87 : decode cX10_middle 87 = .ok (.iconst (-1), 1) := by decide +kernel
theorem dX10_middle_88 : decode cX10_middle 88 = .ok (.istore_n 3, 1) := by decide +kernel
theorem dX10_middle_89 : decode cX10_middle 89 = .ok (.ldc 170, 2) := by decide +kernel
theorem dX10_middle_91 : decode cX10_middle 91 = .ok (.istore 4, 2) := by decide +kernel
theorem dX10_middle_93 : decode cX10_middle 93 = .ok (.iconst 0, 1) := by decide +kernel
theorem dX10_middle_94 : decode cX10_middle 94 = .ok (.istore 5, 2) := by decide +kernel
theorem dX10_middle_96 : decode cX10_middle 96 = .ok (.iload 5, 2) := by decide +kernel
theorem dX10_middle_98 : decode cX10_middle 98 = .ok (.bipush 7, 2) := by decide +kernel
theorem dX10_middle_100 : decode cX10_middle 100 = .ok (.if_icmp .ge 99, 3) := by decide +kernel
theorem dX10_middle_103 : decode cX10_middle 103 = .ok (.iload_n 2, 1) := by decide +kernel
theorem dX10_middle_104 : decode cX10_middle 104 = .ok (.iload 5, 2) := by decide +kernel
theorem dX10_middle_106 : decode cX10_middle 106 = .ok (.invokestatic 114, 3) := by decide +kernel
theorem dX10_middle_109 : decode cX10_middle 109 = .ok (.ifCond .eq 7, 3) := by decide +kernel
theorem dX10_middle_112 : decode cX10_middle 112 = .ok (.iconst 0, 1) := by decide +kernel
theorem dX10_middle_113 : decode cX10_middle 113 = .ok (.goto 5, 3) := by decide +kernel
theorem dX10_middle_116 : decode cX10_middle 116 = .ok (.ldc 170, 2) := by decide +kernel
theorem dX10_middle_118 : decode cX10_middle 118 = .ok (.istore 6, 2) := by decide +kernel
theorem dX10_middle_120 : decode cX10_middle 120 = .ok (.iconst 0, 1) := by decide +kernel
theorem dX10_middle_121 : decode cX10_middle 121 = .ok (.istore 7, 2) := by decide +kernel
theorem dX10_middle_123 : decode cX10_middle 123 = .ok (.iload 7, 2) := by decide +kernel
theorem dX10_middle_125 : decode cX10_middle 125 = .ok (.bipush 7, 2) := by decide +kernel
theorem dX10_middle_127 : decode cX10_middle 127 = .ok (.if_icmp .ge 43, 3) := by decide +kernel
theorem dX10_middle_130 : decode cX10_middle 130 = .ok (.iload_n 2, 1) := by decide +kernel
theorem dX10_middle_131 : decode cX10_middle 131 = .ok (.iload 7, 2) := by decide +kernel
theorem dX10_middle_133 : decode cX10_middle 133 = .ok (.invokestatic 114, 3) := by decide +kernel
theorem dX10_middle_136 : decode cX10_middle 136 = .ok (.ifCond .eq 24, 3) := by decide +kernel
theorem dX10_middle_139 : decode cX10_middle 139 = .ok (.iload 6, 2) := by decide +kernel
theorem dX10_middle_141 : decode cX10_middle 141 = .ok (.aload_n 0, 1) := by decide +kernel
theorem dX10_middle_142 : decode cX10_middle 142 = .ok (.getfield 22, 3) := by decide +kernel
theorem dX10_middle_145 : decode cX10_middle 145 = .ok (.bipush 7, 2) := by decide +kernel
theorem dX10_middle_147 : decode cX10_middle 147 = .ok (.iload 5, 2) := by decide +kernel
theorem dX10_middle_149 : decode cX10_middle 149 = .ok (.imul, 1) := by decide +kernel
theorem dX10_middle_150 : decode cX10_middle 150 = .ok (.iload 7, 2) := by decide +kernel
theorem dX10_middle_152 : decode cX10_middle 152 = .ok (.iadd, 1) := by decide +kernel
theorem dX10_middle_153 : decode cX10_middle 153 = .ok (.iaload, 1) := by decide +kernel
theorem dX10_middle_154 : decode cX10_middle 154 = .ok (.invokestatic 141, 3) := by decide +kernel
theorem dX10_middle_157 : decode cX10_middle 157 = .ok (.goto 5, 3) := by decide +kernel
theorem dX10_middle_160 : decode cX10_middle 160 = .ok (.iload 6, 2) := by decide +kernel
theorem dX10_middle_162 : decode cX10_middle 162 = .ok (.istore 6, 2) := by decide +kernel
theorem dX10_middle_164 : decode cX10_middle 164 = .ok (.iinc 7 1, 3) := by decide +kernel
theorem dX10_middle_167 : decode cX10_middle 167 = .ok (.goto (-44), 3) := by decide +kernel
theorem dX10_middle_170 : decode cX10_middle 170 = .ok (.iload 6, 2) := by decide +kernel
theorem dX10_middle_172 : decode cX10_middle 172 = .ok (.iload 4, 2) := by decide +kernel
theorem dX10_middle_174 : decode cX10_middle 174 = .ok (.if_icmp .ge 8, 3) := by decide +kernel
theorem dX10_middle_177 : decode cX10_middle 177 = .ok (.iload 5, 2) := by decide +kernel
theorem dX10_middle_179 : decode cX10_middle 179 = .ok (.goto 4, 3) := by decide +kernel
theorem dX10_middle_182 : decode cX10_middle 182 = .ok (.iload_n 3, 1) := by decide +kernel
theorem dX10_middle_183 : decode cX10_middle 183 = .ok (.istore_n 3, 1) := by decide +kernel
theorem dX10_middle_184 : decode cX10_middle 184 = .ok (.iload 4, 2) := by decide +kernel
theorem dX10_middle_186 : decode cX10_middle 186 = .ok (.iload 6, 2) := by decide +kernel
theorem dX10_middle_188 : decode cX10_middle 188 = .ok (.invokestatic 136, 3) := by decide +kernel
theorem dX10_middle_191 : decode cX10_middle 191 = .ok (.istore 4, 2) := by decide +kernel
theorem dX10_middle_193 : decode cX10_middle 193 = .ok (.iinc 5 1, 3) := by decide +kernel
theorem dX10_middle_196 : decode cX10_middle 196 = .ok (.goto (-100), 3) := by decide +kernel
theorem dX10_middle_199 : decode cX10_middle 199 = .ok (.iload_n 3, 1) := by decide +kernel
theorem dX10_middle_200 : decode cX10_middle 200 = .ok (.ifCond .ge 12, 3) := by decide +kernel
theorem dX10_middle_203 : decode cX10_middle 203 = .ok (.aload_n 0, 1) := by decide +kernel
theorem dX10_middle_204 : decode cX10_middle 204 = .ok (.ldc 160, 2) := by decide +kernel
theorem dX10_middle_206 : decode cX10_middle 206 = .ok (.invokevirtual 92, 3) := by decide +kernel
theorem dX10_middle_209 : decode cX10_middle 209 = .ok (.goto 4, 3) := by decide +kernel
theorem dX10_middle_212 : decode cX10_middle 212 = .ok (.iload_n 3, 1) := by decide +kernel
theorem dX10_middle_213 : decode cX10_middle 213 = .ok (.ireturn, 1) := by decide +kernel
theorem dX10_heavy_0 : decode cX10_heavy 0 = .ok (.aload_n 0, 1) := by decide +kernel
theorem dX10_heavy_1 : decode cX10_heavy 1 = .ok (.iload_n 1, 1) := by decide +kernel
theorem dX10_heavy_2 : decode cX10_heavy 2 = .ok (.invokevirtual 117, 3) := by decide +kernel
theorem dX10_heavy_5 : decode cX10_heavy 5 = .ok (.ifCond .eq 13, 3) := by decide +kernel
theorem dX10_heavy_8 : decode cX10_heavy 8 = .ok (.aload_n 0, 1) := by decide +kernel
theorem dX10_heavy_9 : decode cX10_heavy 9 = .ok (.iload_n 2, 1) := by decide +kernel
theorem dX10_heavy_10 : decode cX10_heavy 10 = .ok (.bipush 8, 2) := by decide +kernel
theorem dX10_heavy_12 : decode cX10_heavy 12 = .ok (.invokevirtual 224, 3) := by decide +kernel
theorem dX10_heavy_15 : decode cX10_heavy 15 = .ok (.ifCond .ne 10, 3) := by decide +kernel
theorem dX10_heavy_18 : decode cX10_heavy 18 = .ok (.aload_n 0, 1) := by decide +kernel
theorem dX10_heavy_19 : decode cX10_heavy 19 = .ok (.ldc 72, 2) := by decide +kernel
theorem dX10_heavy_21 : decode cX10_heavy 21 = .ok (.invokevirtual 92, 3) := by decide +kernel
theorem dX10_heavy_24 : decode cX10_heavy 24 = .ok (.ireturn, 1) := by decide +kernel
theorem dX10_heavy_25 : decode cX10_heavy 25 = .ok (.aload_n 0, 1) := by decide +kernel
theorem dX10_heavy_26 : decode cX10_heavy 26 = .ok (.iload_n 2, 1) := by decide +kernel
theorem dX10_heavy_27 : decode cX10_heavy 27 = .ok (.invokevirtual 126, 3) := by decide +kernel
theorem dX10_heavy_30 : decode cX10_heavy 30 = .ok (.istore_n 3, 1) := by decide +kernel
theorem dX10_heavy_31 : decode cX10_heavy 31 = .ok (.iload_n 3, 1) := by decide +kernel
theorem dX10_heavy_32 : decode cX10_heavy 32 = .ok (.aload_n 0, 1) := by decide +kernel
theorem dX10_heavy_33 : decode cX10_heavy 33 = .ok (.iload_n 1, 1) := by decide +kernel
theorem dX10_heavy_34 : decode cX10_heavy 34 = .ok (.invokevirtual 120, 3) := by decide +kernel
theorem dX10_heavy_37 : decode cX10_heavy 37 = .ok (.if_icmp .le 10, 3) := by decide +kernel
theorem dX10_heavy_40 : decode cX10_heavy 40 = .ok (.aload_n 0, 1) := by decide +kernel
theorem dX10_heavy_41 : decode cX10_heavy 41 = .ok (.ldc 184, 2) := by decide +kernel
theorem dX10_heavy_43 : decode cX10_heavy 43 = .ok (.invokevirtual 92, 3) := by decide +kernel
theorem dX10_heavy_46 : decode cX10_heavy 46 = .ok (.ireturn, 1) := by decide +kernel
theorem dX10_heavy_47 : decode cX10_heavy 47 = .ok (.iconst 0, 1) := by decide +kernel
theorem dX10_heavy_48 : decode cX10_heavy 48 = .ok (.istore 4, 2) := by decide +kernel
theorem dX10_heavy_50 : decode cX10_heavy 50 = .ok (.iconst 0, 1) := by decide +kernel
theorem dX10_heavy_51 : decode cX10_heavy 51 = .ok (.istore 5, 2) := by decide +kernel
theorem dX10_heavy_53 : decode cX10_heavy 53 = .ok (.iload 5, 2) := by decide +kernel
theorem dX10_heavy_55 : decode cX10_heavy 55 = .ok (.aload_n 0, 1) := by decide +kernel
theorem dX10_heavy_56 : decode cX10_heavy 56 = .ok (.getfield 9, 3) := by decide +kernel
theorem dX10_heavy_59 : decode cX10_heavy 59 = .ok (.bipush 43, 2) := by decide +kernel
theorem dX10_heavy_61 : decode cX10_heavy 61 = .ok (.iaload, 1) := by decide +kernel
theorem dX10_heavy_62 : decode cX10_heavy 62 = .ok (.if_icmp .ge 50, 3) := by decide +kernel
theorem dX10_heavy_65 : decode cX10_heavy 65 = .ok (.iload 4, 2) := by decide +kernel
theorem dX10_heavy_67 : decode cX10_heavy 67 = .ok (.iload_n 2, 1) := by decide +kernel
theorem dX10_heavy_68 : decode cX10_heavy 68 = .ok (.iload 5, 2) := by decide +kernel
theorem dX10_heavy_70 : decode cX10_heavy 70 = .ok (.invokestatic 114, 3) := by decide +kernel
theorem dX10_heavy_73 : decode cX10_heavy 73 = .ok (.ifCond .eq 29, 3) := by decide +kernel
theorem dX10_heavy_76 : decode cX10_heavy 76 = .ok (.iload_n 3, 1) := by decide +kernel
theorem dX10_heavy_77 : decode cX10_heavy 77 = .ok (.aload_n 0, 1) := by decide +kernel
theorem dX10_heavy_78 : decode cX10_heavy 78 = .ok (.iload 5, 2) := by decide +kernel
theorem dX10_heavy_80 : decode cX10_heavy 80 = .ok (.iconst 0, 1) := by decide +kernel
theorem dX10_heavy_81 : decode cX10_heavy 81 = .ok (.invokevirtual 111, 3) := by decide +kernel
theorem dX10_heavy_84 : decode cX10_heavy 84 = .ok (.iconst 2, 1) := by decide +kernel
theorem dX10_heavy_85 : decode cX10_heavy 85 = .ok (.idiv, 1) := by decide +kernel
theorem dX10_heavy_86 : decode cX10_heavy 86 = .ok (.iadd, 1) := by decide +kernel
theorem dX10_heavy_87 : decode cX10_heavy 87 = .ok (.aload_n 0, 1) := by decide +kernel
theorem dX10_heavy_88 : decode cX10_heavy 88 = .ok (.iload_n 1, 1) := by decide +kernel
theorem dX10_heavy_89 : decode cX10_heavy 89 = .ok (.invokevirtual 120, 3) := by decide +kernel
theorem dX10_heavy_92 : decode cX10_heavy 92 = .ok (.if_icmp .le 10, 3) := by decide +kernel
theorem dX10_heavy_95 : decode cX10_heavy 95 = .ok (.iconst 1, 1) := by decide +kernel
theorem dX10_heavy_96 : decode cX10_heavy 96 = .ok (.iload 5, 2) := by decide +kernel
theorem dX10_heavy_98 : decode cX10_heavy 98 = .ok (.ishl, 1) := by decide +kernel
theorem dX10_heavy_99 : decode cX10_heavy 99 = .ok (.goto 4, 3) := by decide +kernel
theorem dX10_heavy_102 : decode cX10_heavy 102 = .ok (.iconst 0, 1) := by decide +kernel
theorem dX10_heavy_103 : decode cX10_heavy 103 = .ok (.ior, 1) := by decide +kernel
theorem dX10_heavy_104 : decode cX10_heavy 104 = .ok (.istore 4, 2) := by decide +kernel
theorem dX10_heavy_106 : decode cX10_heavy 106 = .ok (.iinc 5 1, 3) := by decide +kernel
theorem dX10_heavy_109 : decode cX10_heavy 109 = .ok (.goto (-56), 3) := by decide +kernel
theorem dX10_heavy_112 : decode cX10_heavy 112 = .ok (.iload 4, 2) := by decide +kernel
theorem dX10_heavy_114 : decode cX10_heavy 114 = .ok (.ireturn, 1) := by decide +kernel
theorem dX10_drawn_0 : decode cX10_drawn 0 = .ok (.aload_n 0, 1) := by decide +kernel
theorem dX10_drawn_1 : decode cX10_drawn 1 = .ok (.getfield 9, 3) := by decide +kernel
theorem dX10_drawn_4 : decode cX10_drawn 4 = .ok (.bipush 45, 2) := by decide +kernel
theorem dX10_drawn_6 : decode cX10_drawn 6 = .ok (.aload_n 0, 1) := by decide +kernel
theorem dX10_drawn_7 : decode cX10_drawn 7 = .ok (.getfield 9, 3) := by decide +kernel
theorem dX10_drawn_10 : decode cX10_drawn 10 = .ok (.bipush 45, 2) := by decide +kernel
theorem dX10_drawn_12 : decode cX10_drawn 12 = .ok (.iaload, 1) := by decide +kernel
theorem dX10_drawn_13 : decode cX10_drawn 13 = .ok (.ldc_w 260, 3) := by decide +kernel
theorem dX10_drawn_16 : decode cX10_drawn 16 = .ok (.imul, 1) := by decide +kernel
theorem dX10_drawn_17 : decode cX10_drawn 17 = .ok (.sipush 12345, 3) := by decide +kernel
theorem dX10_drawn_20 : decode cX10_drawn 20 = .ok (.iadd, 1) := by decide +kernel
theorem dX10_drawn_21 : decode cX10_drawn 21 = .ok (.iastore, 1) := by decide +kernel
theorem dX10_drawn_22 : decode cX10_drawn 22 = .ok (.aload_n 0, 1) := by decide +kernel
theorem dX10_drawn_23 : decode cX10_drawn 23 = .ok (.getfield 9, 3) := by decide +kernel
theorem dX10_drawn_26 : decode cX10_drawn 26 = .ok (.bipush 45, 2) := by decide +kernel
theorem dX10_drawn_28 : decode cX10_drawn 28 = .ok (.iaload, 1) := by decide +kernel
theorem dX10_drawn_29 : decode cX10_drawn 29 = .ok (.bipush 8, 2) := by decide +kernel
theorem dX10_drawn_31 : decode cX10_drawn 31 = .ok (.iushr, 1) := by decide +kernel
theorem dX10_drawn_32 : decode cX10_drawn 32 = .ok (.iload_n 1, 1) := by decide +kernel
theorem dX10_drawn_33 : decode cX10_drawn 33 = .ok (.irem, 1) := by decide +kernel
theorem dX10_drawn_34 : decode cX10_drawn 34 = .ok (.ireturn, 1) := by decide +kernel
theorem dX10_takesAll_0 : decode cX10_takesAll 0 = .ok (.iconst 0, 1) := by decide +kernel
theorem dX10_takesAll_1 : decode cX10_takesAll 1 = .ok (.istore_n 2, 1) := by decide +kernel
theorem dX10_takesAll_2 : decode cX10_takesAll 2 = .ok (.iload_n 2, 1) := by decide +kernel
theorem dX10_takesAll_3 : decode cX10_takesAll 3 = .ok (.aload_n 0, 1) := by decide +kernel
theorem dX10_takesAll_4 : decode cX10_takesAll 4 = .ok (.getfield 9, 3) := by decide +kernel
theorem dX10_takesAll_7 : decode cX10_takesAll 7 = .ok (.bipush 43, 2) := by decide +kernel
theorem dX10_takesAll_9 : decode cX10_takesAll 9 = .ok (.iaload, 1) := by decide +kernel
theorem dX10_takesAll_10 : decode cX10_takesAll 10 = .ok (.if_icmp .ge 38, 3) := by decide +kernel
theorem dX10_takesAll_13 : decode cX10_takesAll 13 = .ok (.aload_n 0, 1) := by decide +kernel
theorem dX10_takesAll_14 : decode cX10_takesAll 14 = .ok (.iload_n 2, 1) := by decide +kernel
theorem dX10_takesAll_15 : decode cX10_takesAll 15 = .ok (.aload_n 0, 1) := by decide +kernel
theorem dX10_takesAll_16 : decode cX10_takesAll 16 = .ok (.iload_n 1, 1) := by decide +kernel
theorem dX10_takesAll_17 : decode cX10_takesAll 17 = .ok (.iconst 1, 1) := by decide +kernel
theorem dX10_takesAll_18 : decode cX10_takesAll 18 = .ok (.invokevirtual 104, 3) := by decide +kernel
theorem dX10_takesAll_21 : decode cX10_takesAll 21 = .ok (.invokevirtual 181, 3) := by decide +kernel
theorem dX10_takesAll_24 : decode cX10_takesAll 24 = .ok (.ifCond .eq 18, 3) := by decide +kernel
theorem dX10_takesAll_27 : decode cX10_takesAll 27 = .ok (.aload_n 0, 1) := by decide +kernel
theorem dX10_takesAll_28 : decode cX10_takesAll 28 = .ok (.iload_n 1, 1) := by decide +kernel
theorem dX10_takesAll_29 : decode cX10_takesAll 29 = .ok (.iload_n 2, 1) := by decide +kernel
theorem dX10_takesAll_30 : decode cX10_takesAll 30 = .ok (.invokevirtual 185, 3) := by decide +kernel
theorem dX10_takesAll_33 : decode cX10_takesAll 33 = .ok (.ifCond .eq 9, 3) := by decide +kernel
theorem dX10_takesAll_36 : decode cX10_takesAll 36 = .ok (.aload_n 0, 1) := by decide +kernel
theorem dX10_takesAll_37 : decode cX10_takesAll 37 = .ok (.iload_n 1, 1) := by decide +kernel
theorem dX10_takesAll_38 : decode cX10_takesAll 38 = .ok (.iload_n 2, 1) := by decide +kernel
theorem dX10_takesAll_39 : decode cX10_takesAll 39 = .ok (.invokevirtual 188, 3) := by decide +kernel
theorem dX10_takesAll_42 : decode cX10_takesAll 42 = .ok (.iinc 2 1, 3) := by decide +kernel
theorem dX10_takesAll_45 : decode cX10_takesAll 45 = .ok (.goto (-43), 3) := by decide +kernel
theorem dX10_takesAll_48 : decode cX10_takesAll 48 = .ok (.return_, 1) := by decide +kernel
theorem dX10_refusesDays_0 : decode cX10_refusesDays 0 = .ok (.iload_n 1, 1) := by decide +kernel
theorem dX10_refusesDays_1 : decode cX10_refusesDays 1 = .ok (.iconst 1, 1) := by decide +kernel
theorem dX10_refusesDays_2 : decode cX10_refusesDays 2 = .ok (.bipush 12, 2) := by decide +kernel
theorem dX10_refusesDays_4 : decode cX10_refusesDays 4 = .ok (.invokestatic 77, 3) := by decide +kernel
theorem dX10_refusesDays_7 : decode cX10_refusesDays 7 = .ok (.ifCond .ne 8, 3) := by decide +kernel
theorem dX10_refusesDays_10 : decode cX10_refusesDays 10 = .ok (.ldc 72, 2) := by decide +kernel
theorem dX10_refusesDays_12 : decode cX10_refusesDays 12 = .ok (.goto 19, 3) := by decide +kernel
theorem dX10_refusesDays_15 : decode cX10_refusesDays 15 = .ok (.aload_n 0, 1) := by decide +kernel
theorem dX10_refusesDays_16 : decode cX10_refusesDays 16 = .ok (.getfield 9, 3) := by decide +kernel
theorem dX10_refusesDays_19 : decode cX10_refusesDays 19 = .ok (.bipush 42, 2) := by decide +kernel
theorem dX10_refusesDays_21 : decode cX10_refusesDays 21 = .ok (.iaload, 1) := by decide +kernel
theorem dX10_refusesDays_22 : decode cX10_refusesDays 22 = .ok (.ifCond .ne 8, 3) := by decide +kernel
theorem dX10_refusesDays_25 : decode cX10_refusesDays 25 = .ok (.ldc 184, 2) := by decide +kernel
theorem dX10_refusesDays_27 : decode cX10_refusesDays 27 = .ok (.goto 4, 3) := by decide +kernel
theorem dX10_refusesDays_30 : decode cX10_refusesDays 30 = .ok (.iconst 0, 1) := by decide +kernel
theorem dX10_refusesDays_31 : decode cX10_refusesDays 31 = .ok (.ireturn, 1) := by decide +kernel
theorem dX10_days_0 : decode cX10_days 0 = .ok (.aload_n 0, 1) := by decide +kernel
theorem dX10_days_1 : decode cX10_days 1 = .ok (.iconst 0, 1) := by decide +kernel
theorem dX10_days_2 : decode cX10_days 2 = .ok (.putfield 192, 3) := by decide +kernel
theorem dX10_days_5 : decode cX10_days 5 = .ok (.iconst 0, 1) := by decide +kernel
theorem dX10_days_6 : decode cX10_days 6 = .ok (.istore_n 2, 1) := by decide +kernel
theorem dX10_days_7 : decode cX10_days 7 = .ok (.iconst 0, 1) := by decide +kernel
theorem dX10_days_8 : decode cX10_days 8 = .ok (.istore_n 3, 1) := by decide +kernel
theorem dX10_days_9 : decode cX10_days 9 = .ok (.iload_n 3, 1) := by decide +kernel
theorem dX10_days_10 : decode cX10_days 10 = .ok (.iload_n 1, 1) := by decide +kernel
theorem dX10_days_11 : decode cX10_days 11 = .ok (.if_icmp .ge 45, 3) := by decide +kernel
theorem dX10_days_14 : decode cX10_days 14 = .ok (.aload_n 0, 1) := by decide +kernel
theorem dX10_days_15 : decode cX10_days 15 = .ok (.aload_n 0, 1) := by decide +kernel
theorem dX10_days_16 : decode cX10_days 16 = .ok (.getfield 9, 3) := by decide +kernel
theorem dX10_days_19 : decode cX10_days 19 = .ok (.bipush 42, 2) := by decide +kernel
theorem dX10_days_21 : decode cX10_days 21 = .ok (.iaload, 1) := by decide +kernel
theorem dX10_days_22 : decode cX10_days 22 = .ok (.invokevirtual 261, 3) := by decide +kernel
theorem dX10_days_25 : decode cX10_days 25 = .ok (.istore 4, 2) := by decide +kernel
theorem dX10_days_27 : decode cX10_days 27 = .ok (.aload_n 0, 1) := by decide +kernel
theorem dX10_days_28 : decode cX10_days 28 = .ok (.iload 4, 2) := by decide +kernel
theorem dX10_days_30 : decode cX10_days 30 = .ok (.invokevirtual 264, 3) := by decide +kernel
theorem dX10_days_33 : decode cX10_days 33 = .ok (.iload_n 2, 1) := by decide +kernel
theorem dX10_days_34 : decode cX10_days 34 = .ok (.aload_n 0, 1) := by decide +kernel
theorem dX10_days_35 : decode cX10_days 35 = .ok (.iload 4, 2) := by decide +kernel
theorem dX10_days_37 : decode cX10_days 37 = .ok (.aload_n 0, 1) := by decide +kernel
theorem dX10_days_38 : decode cX10_days 38 = .ok (.bipush 7, 2) := by decide +kernel
theorem dX10_days_40 : decode cX10_days 40 = .ok (.invokevirtual 261, 3) := by decide +kernel
theorem dX10_days_43 : decode cX10_days 43 = .ok (.invokevirtual 199, 3) := by decide +kernel
theorem dX10_days_46 : decode cX10_days 46 = .ok (.invokestatic 141, 3) := by decide +kernel
theorem dX10_days_49 : decode cX10_days 49 = .ok (.istore_n 2, 1) := by decide +kernel
theorem dX10_days_50 : decode cX10_days 50 = .ok (.iinc 3 1, 3) := by decide +kernel
theorem dX10_days_53 : decode cX10_days 53 = .ok (.goto (-44), 3) := by decide +kernel
theorem dX10_days_56 : decode cX10_days 56 = .ok (.iload_n 2, 1) := by decide +kernel
theorem dX10_days_57 : decode cX10_days 57 = .ok (.ifCond .ge 7, 3) := by decide +kernel
theorem dX10_days_60 : decode cX10_days 60 = .ok (.iload_n 2, 1) := by decide +kernel
theorem dX10_days_61 : decode cX10_days 61 = .ok (.goto 7, 3) := by decide +kernel
theorem dX10_days_64 : decode cX10_days 64 = .ok (.aload_n 0, 1) := by decide +kernel
theorem dX10_days_65 : decode cX10_days 65 = .ok (.getfield 192, 3) := by decide +kernel
theorem dX10_days_68 : decode cX10_days 68 = .ok (.ireturn, 1) := by decide +kernel
theorem dX10_day_0 : decode cX10_day 0 = .ok (.aload_n 0, 1) := by decide +kernel
theorem dX10_day_1 : decode cX10_day 1 = .ok (.iload_n 1, 1) := by decide +kernel
theorem dX10_day_2 : decode cX10_day 2 = .ok (.invokevirtual 267, 3) := by decide +kernel
theorem dX10_day_5 : decode cX10_day 5 = .ok (.istore_n 2, 1) := by decide +kernel
theorem dX10_day_6 : decode cX10_day 6 = .ok (.iload_n 2, 1) := by decide +kernel
theorem dX10_day_7 : decode cX10_day 7 = .ok (.ifCond .eq 11, 3) := by decide +kernel
theorem dX10_day_10 : decode cX10_day 10 = .ok (.aload_n 0, 1) := by decide +kernel
theorem dX10_day_11 : decode cX10_day 11 = .ok (.iload_n 2, 1) := by decide +kernel
theorem dX10_day_12 : decode cX10_day 12 = .ok (.invokevirtual 92, 3) := by decide +kernel
theorem dX10_day_15 : decode cX10_day 15 = .ok (.goto 8, 3) := by decide +kernel
theorem dX10_day_18 : decode cX10_day 18 = .ok (.aload_n 0, 1) := by decide +kernel
theorem dX10_day_19 : decode cX10_day 19 = .ok (.iload_n 1, 1) := by decide +kernel
theorem dX10_day_20 : decode cX10_day 20 = .ok (.invokevirtual 270, 3) := by decide +kernel
theorem dX10_day_23 : decode cX10_day 23 = .ok (.ireturn, 1) := by decide +kernel
theorem dX10_ahead_0 : decode cX10_ahead 0 = .ok (.aload_n 0, 1) := by decide +kernel
theorem dX10_ahead_1 : decode cX10_ahead 1 = .ok (.iload_n 1, 1) := by decide +kernel
theorem dX10_ahead_2 : decode cX10_ahead 2 = .ok (.invokevirtual 267, 3) := by decide +kernel
theorem dX10_ahead_5 : decode cX10_ahead 5 = .ok (.istore_n 2, 1) := by decide +kernel
theorem dX10_ahead_6 : decode cX10_ahead 6 = .ok (.iload_n 2, 1) := by decide +kernel
theorem dX10_ahead_7 : decode cX10_ahead 7 = .ok (.ifCond .eq 9, 3) := by decide +kernel
theorem dX10_ahead_10 : decode cX10_ahead 10 = .ok (.aload_n 0, 1) := by decide +kernel
theorem dX10_ahead_11 : decode cX10_ahead 11 = .ok (.iload_n 2, 1) := by decide +kernel
theorem dX10_ahead_12 : decode cX10_ahead 12 = .ok (.invokevirtual 92, 3) := by decide +kernel
theorem dX10_ahead_15 : decode cX10_ahead 15 = .ok (.ireturn, 1) := by decide +kernel
theorem dX10_ahead_16 : decode cX10_ahead 16 = .ok (.aload_n 0, 1) := by decide +kernel
theorem dX10_ahead_17 : decode cX10_ahead 17 = .ok (.getfield 9, 3) := by decide +kernel
theorem dX10_ahead_20 : decode cX10_ahead 20 = .ok (.aload_n 0, 1) := by decide +kernel
theorem dX10_ahead_21 : decode cX10_ahead 21 = .ok (.getfield 16, 3) := by decide +kernel
theorem dX10_ahead_24 : decode cX10_ahead 24 = .ok (.invokestatic 73, 3) := by decide +kernel
theorem dX10_ahead_27 : decode cX10_ahead 27 = .ok (.aload_n 0, 1) := by decide +kernel
theorem dX10_ahead_28 : decode cX10_ahead 28 = .ok (.aload_n 0, 1) := by decide +kernel
theorem dX10_ahead_29 : decode cX10_ahead 29 = .ok (.iload_n 1, 1) := by decide +kernel
theorem dX10_ahead_30 : decode cX10_ahead 30 = .ok (.invokevirtual 270, 3) := by decide +kernel
theorem dX10_ahead_33 : decode cX10_ahead 33 = .ok (.invokevirtual 273, 3) := by decide +kernel
theorem dX10_ahead_36 : decode cX10_ahead 36 = .ok (.ireturn, 1) := by decide +kernel
theorem dX10_seed_0 : decode cX10_seed 0 = .ok (.aload_n 0, 1) := by decide +kernel
theorem dX10_seed_1 : decode cX10_seed 1 = .ok (.bipush 45, 2) := by decide +kernel
theorem dX10_seed_3 : decode cX10_seed 3 = .ok (.iload_n 1, 1) := by decide +kernel
theorem dX10_seed_4 : decode cX10_seed 4 = .ok (.invokevirtual 133, 3) := by decide +kernel
theorem dX10_seed_7 : decode cX10_seed 7 = .ok (.ireturn, 1) := by decide +kernel
theorem dX10_feed_0 : decode cX10_feed 0 = .ok (.iload_n 2, 1) := by decide +kernel
theorem dX10_feed_1 : decode cX10_feed 1 = .ok (.iconst 1, 1) := by decide +kernel
theorem dX10_feed_2 : decode cX10_feed 2 = .ok (.iconst 4, 1) := by decide +kernel
theorem dX10_feed_3 : decode cX10_feed 3 = .ok (.invokestatic 77, 3) := by decide +kernel
theorem dX10_feed_6 : decode cX10_feed 6 = .ok (.ifCond .ne 10, 3) := by decide +kernel
theorem dX10_feed_9 : decode cX10_feed 9 = .ok (.aload_n 0, 1) := by decide +kernel
theorem dX10_feed_10 : decode cX10_feed 10 = .ok (.ldc 72, 2) := by decide +kernel
theorem dX10_feed_12 : decode cX10_feed 12 = .ok (.invokevirtual 92, 3) := by decide +kernel
theorem dX10_feed_15 : decode cX10_feed 15 = .ok (.ireturn, 1) := by decide +kernel
theorem dX10_feed_16 : decode cX10_feed 16 = .ok (.aload_n 0, 1) := by decide +kernel
theorem dX10_feed_17 : decode cX10_feed 17 = .ok (.getfield 276, 3) := by decide +kernel
theorem dX10_feed_20 : decode cX10_feed 20 = .ok (.iload_n 2, 1) := by decide +kernel
theorem dX10_feed_21 : decode cX10_feed 21 = .ok (.iadd, 1) := by decide +kernel
theorem dX10_feed_22 : decode cX10_feed 22 = .ok (.bipush 120, 2) := by decide +kernel
theorem dX10_feed_24 : decode cX10_feed 24 = .ok (.if_icmp .le 10, 3) := by decide +kernel
theorem dX10_feed_27 : decode cX10_feed 27 = .ok (.aload_n 0, 1) := by decide +kernel
theorem dX10_feed_28 : decode cX10_feed 28 = .ok (.ldc 96, 2) := by decide +kernel
theorem dX10_feed_30 : decode cX10_feed 30 = .ok (.invokevirtual 92, 3) := by decide +kernel
theorem dX10_feed_33 : decode cX10_feed 33 = .ok (.ireturn, 1) := by decide +kernel
theorem dX10_feed_34 : decode cX10_feed 34 = .ok (.iload_n 2, 1) := by decide +kernel
theorem dX10_feed_35 : decode cX10_feed 35 = .ok (.iconst 1, 1) := by decide +kernel
theorem dX10_feed_36 : decode cX10_feed 36 = .ok (.isub, 1) := by decide +kernel
theorem dX10_feed_37 : decode cX10_feed 37 = .ok (.istore_n 3, 1) := by decide +kernel
theorem dX10_feed_38 : decode cX10_feed 38 = .ok (.iload_n 3, 1) := by decide +kernel
theorem dX10_feed_39 : decode cX10_feed 39 = .ok (.ifCond .lt 38, 3) := by decide +kernel
theorem dX10_feed_42 : decode cX10_feed 42 = .ok (.aload_n 0, 1) := by decide +kernel
theorem dX10_feed_43 : decode cX10_feed 43 = .ok (.getfield 34, 3) := by decide +kernel
theorem dX10_feed_46 : decode cX10_feed 46 = .ok (.aload_n 0, 1) := by decide +kernel
theorem dX10_feed_47 : decode cX10_feed 47 = .ok (.getfield 276, 3) := by decide +kernel
theorem dX10_feed_50 : decode cX10_feed 50 = .ok (.iload_n 1, 1) := by decide +kernel
theorem dX10_feed_51 : decode cX10_feed 51 = .ok (.bipush 8, 2) := by decide +kernel
theorem dX10_feed_53 : decode cX10_feed 53 = .ok (.iload_n 3, 1) := by decide +kernel
theorem dX10_feed_54 : decode cX10_feed 54 = .ok (.imul, 1) := by decide +kernel
theorem dX10_feed_55 : decode cX10_feed 55 = .ok (.ishr, 1) := by decide +kernel
theorem dX10_feed_56 : decode cX10_feed 56 = .ok (.sipush 255, 3) := by decide +kernel
theorem dX10_feed_59 : decode cX10_feed 59 = .ok (.iand, 1) := by decide +kernel
theorem dX10_feed_60 : decode cX10_feed 60 = .ok (.iastore, 1) := by decide +kernel
theorem dX10_feed_61 : decode cX10_feed 61 = .ok (.aload_n 0, 1) := by decide +kernel
theorem dX10_feed_62 : decode cX10_feed 62 = .ok (.dup, 1) := by decide +kernel
theorem dX10_feed_63 : decode cX10_feed 63 = .ok (.getfield 276, 3) := by decide +kernel
theorem dX10_feed_66 : decode cX10_feed 66 = .ok (.iconst 1, 1) := by decide +kernel
theorem dX10_feed_67 : decode cX10_feed 67 = .ok (.iadd, 1) := by decide +kernel
theorem dX10_feed_68 : decode cX10_feed 68 = .ok (.putfield 276, 3) := by decide +kernel
theorem dX10_feed_71 : decode cX10_feed 71 = .ok (.iinc 3 (-1), 3) := by decide +kernel
theorem dX10_feed_74 : decode cX10_feed 74 = .ok (.goto (-36), 3) := by decide +kernel
theorem dX10_feed_77 : decode cX10_feed 77 = .ok (.aload_n 0, 1) := by decide +kernel
theorem dX10_feed_78 : decode cX10_feed 78 = .ok (.getfield 276, 3) := by decide +kernel
theorem dX10_feed_81 : decode cX10_feed 81 = .ok (.ireturn, 1) := by decide +kernel
theorem dX10_wipe_0 : decode cX10_wipe 0 = .ok (.aload_n 0, 1) := by decide +kernel
theorem dX10_wipe_1 : decode cX10_wipe 1 = .ok (.getfield 276, 3) := by decide +kernel
theorem dX10_wipe_4 : decode cX10_wipe 4 = .ok (.istore_n 1, 1) := by decide +kernel
theorem dX10_wipe_5 : decode cX10_wipe 5 = .ok (.aload_n 0, 1) := by decide +kernel
theorem dX10_wipe_6 : decode cX10_wipe 6 = .ok (.iconst 0, 1) := by decide +kernel
theorem dX10_wipe_7 : decode cX10_wipe 7 = .ok (.putfield 276, 3) := by decide +kernel
theorem dX10_wipe_10 : decode cX10_wipe 10 = .ok (.iload_n 1, 1) := by decide +kernel
theorem dX10_wipe_11 : decode cX10_wipe 11 = .ok (.ireturn, 1) := by decide +kernel
theorem dX10_byteAt_0 : decode cX10_byteAt 0 = .ok (.iload_n 1, 1) := by decide +kernel
theorem dX10_byteAt_1 : decode cX10_byteAt 1 = .ok (.aload_n 0, 1) := by decide +kernel
theorem dX10_byteAt_2 : decode cX10_byteAt 2 = .ok (.getfield 276, 3) := by decide +kernel
theorem dX10_byteAt_5 : decode cX10_byteAt 5 = .ok (.if_icmp .ge 12, 3) := by decide +kernel
theorem dX10_byteAt_8 : decode cX10_byteAt 8 = .ok (.aload_n 0, 1) := by decide +kernel
theorem dX10_byteAt_9 : decode cX10_byteAt 9 = .ok (.getfield 34, 3) := by decide +kernel
theorem dX10_byteAt_12 : decode cX10_byteAt 12 = .ok (.iload_n 1, 1) := by decide +kernel
theorem dX10_byteAt_13 : decode cX10_byteAt 13 = .ok (.iaload, 1) := by decide +kernel
theorem dX10_byteAt_14 : decode cX10_byteAt 14 = .ok (.goto 4, 3) := by decide +kernel
theorem dX10_byteAt_17 : decode cX10_byteAt 17 = .ok (.iconst (-1), 1) := by decide +kernel
theorem dX10_byteAt_18 : decode cX10_byteAt 18 = .ok (.ireturn, 1) := by decide +kernel
theorem dX10_next_0 : decode cX10_next 0 = .ok (.aload_n 0, 1) := by decide +kernel
theorem dX10_next_1 : decode cX10_next 1 = .ok (.aload_n 0, 1) := by decide +kernel
theorem dX10_next_2 : decode cX10_next 2 = .ok (.getfield 279, 3) := by decide +kernel
theorem dX10_next_5 : decode cX10_next 5 = .ok (.putfield 282, 3) := by decide +kernel
theorem dX10_next_8 : decode cX10_next 8 = .ok (.aload_n 0, 1) := by decide +kernel
theorem dX10_next_9 : decode cX10_next 9 = .ok (.aload_n 0, 1) := by decide +kernel
theorem dX10_next_10 : decode cX10_next 10 = .ok (.getfield 282, 3) := by decide +kernel
theorem dX10_next_13 : decode cX10_next 13 = .ok (.invokevirtual 285, 3) := by decide +kernel
theorem dX10_next_16 : decode cX10_next 16 = .ok (.bipush 32, 2) := by decide +kernel
theorem dX10_next_18 : decode cX10_next 18 = .ok (.if_icmp .ne 16, 3) := by decide +kernel
theorem dX10_next_21 : decode cX10_next 21 = .ok (.aload_n 0, 1) := by decide +kernel
theorem dX10_next_22 : decode cX10_next 22 = .ok (.dup, 1) := by decide +kernel
theorem dX10_next_23 : decode cX10_next 23 = .ok (.getfield 282, 3) := by decide +kernel
theorem dX10_next_26 : decode cX10_next 26 = .ok (.iconst 1, 1) := by decide +kernel
theorem dX10_next_27 : decode cX10_next 27 = .ok (.iadd, 1) := by decide +kernel
theorem dX10_next_28 : decode cX10_next 28 = .ok (.putfield 282, 3) := by decide +kernel
theorem dX10_next_31 : decode cX10_next 31 = .ok (.goto (-23), 3) := by decide +kernel
theorem dX10_next_34 : decode cX10_next 34 = .ok (.aload_n 0, 1) := by decide +kernel
theorem dX10_next_35 : decode cX10_next 35 = .ok (.aload_n 0, 1) := by decide +kernel
theorem dX10_next_36 : decode cX10_next 36 = .ok (.getfield 282, 3) := by decide +kernel
theorem dX10_next_39 : decode cX10_next 39 = .ok (.invokevirtual 285, 3) := by decide +kernel
theorem dX10_next_42 : decode cX10_next 42 = .ok (.istore_n 1, 1) := by decide +kernel
theorem dX10_next_43 : decode cX10_next 43 = .ok (.aload_n 0, 1) := by decide +kernel
theorem dX10_next_44 : decode cX10_next 44 = .ok (.aload_n 0, 1) := by decide +kernel
theorem dX10_next_45 : decode cX10_next 45 = .ok (.getfield 282, 3) := by decide +kernel
theorem dX10_next_48 : decode cX10_next 48 = .ok (.putfield 279, 3) := by decide +kernel
theorem dX10_next_51 : decode cX10_next 51 = .ok (.aload_n 0, 1) := by decide +kernel
theorem dX10_next_52 : decode cX10_next 52 = .ok (.iconst 0, 1) := by decide +kernel
theorem dX10_next_53 : decode cX10_next 53 = .ok (.putfield 288, 3) := by decide +kernel
theorem dX10_next_56 : decode cX10_next 56 = .ok (.iload_n 1, 1) := by decide +kernel
theorem dX10_next_57 : decode cX10_next 57 = .ok (.ifCond .ge 11, 3) := by decide +kernel
theorem dX10_next_60 : decode cX10_next 60 = .ok (.aload_n 0, 1) := by decide +kernel
theorem dX10_next_61 : decode cX10_next 61 = .ok (.iconst 0, 1) := by decide +kernel
theorem dX10_next_62 : decode cX10_next 62 = .ok (.putfield 291, 3) := by decide +kernel
theorem dX10_next_65 : decode cX10_next 65 = .ok (.goto 141, 3) := by decide +kernel
theorem dX10_next_68 : decode cX10_next 68 = .ok (.iload_n 1, 1) := by decide +kernel
theorem dX10_next_69 : decode cX10_next 69 = .ok (.bipush 97, 2) := by decide +kernel
theorem dX10_next_71 : decode cX10_next 71 = .ok (.bipush 122, 2) := by decide +kernel
theorem dX10_next_73 : decode cX10_next 73 = .ok (.invokestatic 77, 3) := by decide +kernel
theorem dX10_next_76 : decode cX10_next 76 = .ok (.ifCond .eq 39, 3) := by decide +kernel
theorem dX10_next_79 : decode cX10_next 79 = .ok (.aload_n 0, 1) := by decide +kernel
theorem dX10_next_80 : decode cX10_next 80 = .ok (.iconst 1, 1) := by decide +kernel
theorem dX10_next_81 : decode cX10_next 81 = .ok (.putfield 291, 3) := by decide +kernel
theorem dX10_next_84 : decode cX10_next 84 = .ok (.aload_n 0, 1) := by decide +kernel
theorem dX10_next_85 : decode cX10_next 85 = .ok (.aload_n 0, 1) := by decide +kernel
theorem dX10_next_86 : decode cX10_next 86 = .ok (.getfield 279, 3) := by decide +kernel
theorem dX10_next_89 : decode cX10_next 89 = .ok (.invokevirtual 285, 3) := by decide +kernel
theorem dX10_next_92 : decode cX10_next 92 = .ok (.bipush 97, 2) := by decide +kernel
theorem dX10_next_94 : decode cX10_next 94 = .ok (.bipush 122, 2) := by decide +kernel
theorem dX10_next_96 : decode cX10_next 96 = .ok (.invokestatic 77, 3) := by decide +kernel
theorem dX10_next_99 : decode cX10_next 99 = .ok (.ifCond .eq 107, 3) := by decide +kernel
theorem dX10_next_102 : decode cX10_next 102 = .ok (.aload_n 0, 1) := by decide +kernel
theorem dX10_next_103 : decode cX10_next 103 = .ok (.dup, 1) := by decide +kernel
theorem dX10_next_104 : decode cX10_next 104 = .ok (.getfield 279, 3) := by decide +kernel
theorem dX10_next_107 : decode cX10_next 107 = .ok (.iconst 1, 1) := by decide +kernel
theorem dX10_next_108 : decode cX10_next 108 = .ok (.iadd, 1) := by decide +kernel
theorem dX10_next_109 : decode cX10_next 109 = .ok (.putfield 279, 3) := by decide +kernel
theorem dX10_next_112 : decode cX10_next 112 = .ok (.goto (-28), 3) := by decide +kernel
theorem dX10_next_115 : decode cX10_next 115 = .ok (.iload_n 1, 1) := by decide +kernel
theorem dX10_next_116 : decode cX10_next 116 = .ok (.bipush 48, 2) := by decide +kernel
theorem dX10_next_118 : decode cX10_next 118 = .ok (.bipush 57, 2) := by decide +kernel
theorem dX10_next_120 : decode cX10_next 120 = .ok (.invokestatic 77, 3) := by decide +kernel
theorem dX10_next_123 : decode cX10_next 123 = .ok (.ifCond .eq 68, 3) := by decide +kernel
theorem dX10_next_126 : decode cX10_next 126 = .ok (.aload_n 0, 1) := by decide +kernel
theorem dX10_next_127 : decode cX10_next 127 = .ok (.iconst 2, 1) := by decide +kernel
theorem dX10_next_128 : decode cX10_next 128 = .ok (.putfield 291, 3) := by decide +kernel
theorem dX10_next_131 : decode cX10_next 131 = .ok (.aload_n 0, 1) := by decide +kernel
theorem dX10_next_132 : decode cX10_next 132 = .ok (.aload_n 0, 1) := by decide +kernel
theorem dX10_next_133 : decode cX10_next 133 = .ok (.getfield 279, 3) := by decide +kernel
theorem dX10_next_136 : decode cX10_next 136 = .ok (.invokevirtual 285, 3) := by decide +kernel
theorem dX10_next_139 : decode cX10_next 139 = .ok (.bipush 48, 2) := by decide +kernel
theorem dX10_next_141 : decode cX10_next 141 = .ok (.bipush 57, 2) := by decide +kernel
theorem dX10_next_143 : decode cX10_next 143 = .ok (.invokestatic 77, 3) := by decide +kernel
theorem dX10_next_146 : decode cX10_next 146 = .ok (.ifCond .eq 60, 3) := by decide +kernel
theorem dX10_next_149 : decode cX10_next 149 = .ok (.aload_n 0, 1) := by decide +kernel
theorem dX10_next_150 : decode cX10_next 150 = .ok (.sipush 10000, 3) := by decide +kernel
theorem dX10_next_153 : decode cX10_next 153 = .ok (.bipush 10, 2) := by decide +kernel
theorem dX10_next_155 : decode cX10_next 155 = .ok (.aload_n 0, 1) := by decide +kernel
theorem dX10_next_156 : decode cX10_next 156 = .ok (.getfield 288, 3) := by decide +kernel
theorem dX10_next_159 : decode cX10_next 159 = .ok (.imul, 1) := by decide +kernel
theorem dX10_next_160 : decode cX10_next 160 = .ok (.aload_n 0, 1) := by decide +kernel
theorem dX10_next_161 : decode cX10_next 161 = .ok (.aload_n 0, 1) := by decide +kernel
theorem dX10_next_162 : decode cX10_next 162 = .ok (.getfield 279, 3) := by decide +kernel
theorem dX10_next_165 : decode cX10_next 165 = .ok (.invokevirtual 285, 3) := by decide +kernel
theorem dX10_next_168 : decode cX10_next 168 = .ok (.iadd, 1) := by decide +kernel
theorem dX10_next_169 : decode cX10_next 169 = .ok (.bipush 48, 2) := by decide +kernel
theorem dX10_next_171 : decode cX10_next 171 = .ok (.isub, 1) := by decide +kernel
theorem dX10_next_172 : decode cX10_next 172 = .ok (.invokestatic 136, 3) := by decide +kernel
theorem dX10_next_175 : decode cX10_next 175 = .ok (.putfield 288, 3) := by decide +kernel
theorem dX10_next_178 : decode cX10_next 178 = .ok (.aload_n 0, 1) := by decide +kernel
theorem dX10_next_179 : decode cX10_next 179 = .ok (.dup, 1) := by decide +kernel
theorem dX10_next_180 : decode cX10_next 180 = .ok (.getfield 279, 3) := by decide +kernel
theorem dX10_next_183 : decode cX10_next 183 = .ok (.iconst 1, 1) := by decide +kernel
theorem dX10_next_184 : decode cX10_next 184 = .ok (.iadd, 1) := by decide +kernel
theorem dX10_next_185 : decode cX10_next 185 = .ok (.putfield 279, 3) := by decide +kernel
theorem dX10_next_188 : decode cX10_next 188 = .ok (.goto (-57), 3) := by decide +kernel
theorem dX10_next_191 : decode cX10_next 191 = .ok (.aload_n 0, 1) := by decide +kernel
theorem dX10_next_192 : decode cX10_next 192 = .ok (.iconst 3, 1) := by decide +kernel
theorem dX10_next_193 : decode cX10_next 193 = .ok (.putfield 291, 3) := by decide +kernel
theorem dX10_next_196 : decode cX10_next 196 = .ok (.aload_n 0, 1) := by decide +kernel
theorem dX10_next_197 : decode cX10_next 197 = .ok (.dup, 1) := by decide +kernel
theorem dX10_next_198 : decode cX10_next 198 = .ok (.getfield 279, 3) := by decide +kernel
