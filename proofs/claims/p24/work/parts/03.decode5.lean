theorem dX5_init_0 : decode cX5_init 0 = .ok (.aload_n 0, 1) := by decide +kernel
theorem dX5_init_1 : decode cX5_init 1 = .ok (.invokespecial 1, 3) := by decide +kernel
theorem dX5_init_4 : decode cX5_init 4 = .ok (.aload_n 0, 1) := by decide +kernel
theorem dX5_init_5 : decode cX5_init 5 = .ok (.bipush 6, 2) := by decide +kernel
theorem dX5_init_7 : decode cX5_init 7 = .ok (.anewarray 9, 3) := by decide +kernel
theorem dX5_init_10 : decode cX5_init 10 = .ok (.putfield 11, 3) := by decide +kernel
theorem dX5_init_13 : decode cX5_init 13 = .ok (.aload_n 0, 1) := by decide +kernel
theorem dX5_init_14 : decode cX5_init 14 = .ok (.new 15, 3) := by decide +kernel
theorem dX5_init_17 : decode cX5_init 17 = .ok (.dup, 1) := by decide +kernel
theorem dX5_init_18 : decode cX5_init 18 = .ok (.invokespecial 17, 3) := by decide +kernel
theorem dX5_init_21 : decode cX5_init 21 = .ok (.putfield 18, 3) := by decide +kernel
theorem dX5_init_24 : decode cX5_init 24 = .ok (.aload_n 0, 1) := by decide +kernel
theorem dX5_init_25 : decode cX5_init 25 = .ok (.bipush 20, 2) := by decide +kernel
theorem dX5_init_27 : decode cX5_init 27 = .ok (.newarray .int, 2) := by decide +kernel
theorem dX5_init_29 : decode cX5_init 29 = .ok (.putfield 22, 3) := by decide +kernel
theorem dX5_init_32 : decode cX5_init 32 = .ok (.aload_n 0, 1) := by decide +kernel
theorem dX5_init_33 : decode cX5_init 33 = .ok (.bipush 20, 2) := by decide +kernel
theorem dX5_init_35 : decode cX5_init 35 = .ok (.newarray .int, 2) := by decide +kernel
theorem dX5_init_37 : decode cX5_init 37 = .ok (.putfield 26, 3) := by decide +kernel
theorem dX5_init_40 : decode cX5_init 40 = .ok (.aload_n 0, 1) := by decide +kernel
theorem dX5_init_41 : decode cX5_init 41 = .ok (.bipush 20, 2) := by decide +kernel
theorem dX5_init_43 : decode cX5_init 43 = .ok (.newarray .int, 2) := by decide +kernel
theorem dX5_init_45 : decode cX5_init 45 = .ok (.putfield 29, 3) := by decide +kernel
theorem dX5_init_48 : decode cX5_init 48 = .ok (.aload_n 0, 1) := by decide +kernel
theorem dX5_init_49 : decode cX5_init 49 = .ok (.new 32, 3) := by decide +kernel
theorem dX5_init_52 : decode cX5_init 52 = .ok (.dup, 1) := by decide +kernel
theorem dX5_init_53 : decode cX5_init 53 = .ok (.invokespecial 34, 3) := by decide +kernel
theorem dX5_init_56 : decode cX5_init 56 = .ok (.putfield 35, 3) := by decide +kernel
theorem dX5_init_59 : decode cX5_init 59 = .ok (.aload_n 0, 1) := by decide +kernel
theorem dX5_init_60 : decode cX5_init 60 = .ok (.iconst 0, 1) := by decide +kernel
theorem dX5_init_61 : decode cX5_init 61 = .ok (.putfield 39, 3) := by decide +kernel
theorem dX5_init_64 : decode cX5_init 64 = .ok (.aload_n 0, 1) := by decide +kernel
theorem dX5_init_65 : decode cX5_init 65 = .ok (.iconst 0, 1) := by decide +kernel
theorem dX5_init_66 : decode cX5_init 66 = .ok (.putfield 43, 3) := by decide +kernel
theorem dX5_init_69 : decode cX5_init 69 = .ok (.iconst 0, 1) := by decide +kernel
theorem dX5_init_70 : decode cX5_init 70 = .ok (.istore_n 1, 1) := by decide +kernel
theorem dX5_init_71 : decode cX5_init 71 = .ok (.iload_n 1, 1) := by decide +kernel
theorem dX5_init_72 : decode cX5_init 72 = .ok (.bipush 6, 2) := by decide +kernel
theorem dX5_init_74 : decode cX5_init 74 = .ok (.if_icmp .ge 22, 3) := by decide +kernel
theorem dX5_init_77 : decode cX5_init 77 = .ok (.aload_n 0, 1) := by decide +kernel
theorem dX5_init_78 : decode cX5_init 78 = .ok (.getfield 11, 3) := by decide +kernel
theorem dX5_init_81 : decode cX5_init 81 = .ok (.iload_n 1, 1) := by decide +kernel
theorem dX5_init_82 : decode cX5_init 82 = .ok (.new 9, 3) := by decide +kernel
theorem dX5_init_85 : decode cX5_init 85 = .ok (.dup, 1) := by decide +kernel
theorem dX5_init_86 : decode cX5_init 86 = .ok (.invokespecial 46, 3) := by decide +kernel
theorem dX5_init_89 : decode cX5_init 89 = .ok (.aastore, 1) := by decide +kernel
theorem dX5_init_90 : decode cX5_init 90 = .ok (.iinc 1 1, 3) := by decide +kernel
theorem dX5_init_93 : decode cX5_init 93 = .ok (.goto (-22), 3) := by decide +kernel
theorem dX5_init_96 : decode cX5_init 96 = .ok (.return_, 1) := by decide +kernel
theorem dX5_link_0 : decode cX5_link 0 = .ok (.iload_n 1, 1) := by decide +kernel
theorem dX5_link_1 : decode cX5_link 1 = .ok (.invokestatic 47, 3) := by decide +kernel
theorem dX5_link_4 : decode cX5_link 4 = .ok (.iload_n 2, 1) := by decide +kernel
theorem dX5_link_5 : decode cX5_link 5 = .ok (.invokestatic 47, 3) := by decide +kernel
theorem dX5_link_8 : decode cX5_link 8 = .ok (.aload_n 0, 1) := by decide +kernel
theorem dX5_link_9 : decode cX5_link 9 = .ok (.getfield 18, 3) := by decide +kernel
theorem dX5_link_12 : decode cX5_link 12 = .ok (.iload_n 1, 1) := by decide +kernel
theorem dX5_link_13 : decode cX5_link 13 = .ok (.invokevirtual 51, 3) := by decide +kernel
theorem dX5_link_16 : decode cX5_link 16 = .ok (.iload_n 2, 1) := by decide +kernel
theorem dX5_link_17 : decode cX5_link 17 = .ok (.invokestatic 55, 3) := by decide +kernel
theorem dX5_link_20 : decode cX5_link 20 = .ok (.ifCond .eq 13, 3) := by decide +kernel
theorem dX5_link_23 : decode cX5_link 23 = .ok (.new 59, 3) := by decide +kernel
theorem dX5_link_26 : decode cX5_link 26 = .ok (.dup, 1) := by decide +kernel
theorem dX5_link_27 : decode cX5_link 27 = .ok (.ldc 61, 2) := by decide +kernel
theorem dX5_link_29 : decode cX5_link 29 = .ok (.invokespecial 63, 3) := by decide +kernel
theorem dX5_link_32 : decode cX5_link 32 = .ok (.athrow, 1) := by decide +kernel
theorem dX5_link_33 : decode cX5_link 33 = .ok (.aload_n 0, 1) := by decide +kernel
theorem dX5_link_34 : decode cX5_link 34 = .ok (.getfield 18, 3) := by decide +kernel
theorem dX5_link_37 : decode cX5_link 37 = .ok (.getfield 66, 3) := by decide +kernel
theorem dX5_link_40 : decode cX5_link 40 = .ok (.istore_n 3, 1) := by decide +kernel
theorem dX5_link_41 : decode cX5_link 41 = .ok (.aload_n 0, 1) := by decide +kernel
theorem dX5_link_42 : decode cX5_link 42 = .ok (.getfield 18, 3) := by decide +kernel
theorem dX5_link_45 : decode cX5_link 45 = .ok (.iload_n 1, 1) := by decide +kernel
theorem dX5_link_46 : decode cX5_link 46 = .ok (.iload_n 2, 1) := by decide +kernel
theorem dX5_link_47 : decode cX5_link 47 = .ok (.invokevirtual 69, 3) := by decide +kernel
theorem dX5_link_50 : decode cX5_link 50 = .ok (.aload_n 0, 1) := by decide +kernel
theorem dX5_link_51 : decode cX5_link 51 = .ok (.iload_n 1, 1) := by decide +kernel
theorem dX5_link_52 : decode cX5_link 52 = .ok (.iload_n 2, 1) := by decide +kernel
theorem dX5_link_53 : decode cX5_link 53 = .ok (.invokevirtual 73, 3) := by decide +kernel
theorem dX5_link_56 : decode cX5_link 56 = .ok (.aload_n 0, 1) := by decide +kernel
theorem dX5_link_57 : decode cX5_link 57 = .ok (.iload_n 2, 1) := by decide +kernel
theorem dX5_link_58 : decode cX5_link 58 = .ok (.iload_n 1, 1) := by decide +kernel
theorem dX5_link_59 : decode cX5_link 59 = .ok (.invokevirtual 73, 3) := by decide +kernel
theorem dX5_link_62 : decode cX5_link 62 = .ok (.aload_n 0, 1) := by decide +kernel
theorem dX5_link_63 : decode cX5_link 63 = .ok (.dup, 1) := by decide +kernel
theorem dX5_link_64 : decode cX5_link 64 = .ok (.getfield 43, 3) := by decide +kernel
theorem dX5_link_67 : decode cX5_link 67 = .ok (.iconst 1, 1) := by decide +kernel
theorem dX5_link_68 : decode cX5_link 68 = .ok (.iadd, 1) := by decide +kernel
theorem dX5_link_69 : decode cX5_link 69 = .ok (.putfield 43, 3) := by decide +kernel
theorem dX5_link_72 : decode cX5_link 72 = .ok (.aload_n 0, 1) := by decide +kernel
theorem dX5_link_73 : decode cX5_link 73 = .ok (.getfield 18, 3) := by decide +kernel
theorem dX5_link_76 : decode cX5_link 76 = .ok (.getfield 66, 3) := by decide +kernel
theorem dX5_link_79 : decode cX5_link 79 = .ok (.iload_n 3, 1) := by decide +kernel
theorem dX5_link_80 : decode cX5_link 80 = .ok (.isub, 1) := by decide +kernel
theorem dX5_link_81 : decode cX5_link 81 = .ok (.ireturn, 1) := by decide +kernel
theorem dX5_split_0 : decode cX5_split 0 = .ok (.iload_n 1, 1) := by decide +kernel
theorem dX5_split_1 : decode cX5_split 1 = .ok (.invokestatic 47, 3) := by decide +kernel
theorem dX5_split_4 : decode cX5_split 4 = .ok (.iload_n 2, 1) := by decide +kernel
theorem dX5_split_5 : decode cX5_split 5 = .ok (.invokestatic 47, 3) := by decide +kernel
theorem dX5_split_8 : decode cX5_split 8 = .ok (.aload_n 0, 1) := by decide +kernel
theorem dX5_split_9 : decode cX5_split 9 = .ok (.getfield 18, 3) := by decide +kernel
theorem dX5_split_12 : decode cX5_split 12 = .ok (.iload_n 1, 1) := by decide +kernel
theorem dX5_split_13 : decode cX5_split 13 = .ok (.iload_n 2, 1) := by decide +kernel
theorem dX5_split_14 : decode cX5_split 14 = .ok (.invokevirtual 76, 3) := by decide +kernel
theorem dX5_split_17 : decode cX5_split 17 = .ok (.ifCond .ne 13, 3) := by decide +kernel
theorem dX5_split_20 : decode cX5_split 20 = .ok (.new 59, 3) := by decide +kernel
theorem dX5_split_23 : decode cX5_split 23 = .ok (.dup, 1) := by decide +kernel
theorem dX5_split_24 : decode cX5_split 24 = .ok (.ldc 79, 2) := by decide +kernel
theorem dX5_split_26 : decode cX5_split 26 = .ok (.invokespecial 63, 3) := by decide +kernel
theorem dX5_split_29 : decode cX5_split 29 = .ok (.athrow, 1) := by decide +kernel
theorem dX5_split_30 : decode cX5_split 30 = .ok (.aload_n 0, 1) := by decide +kernel
theorem dX5_split_31 : decode cX5_split 31 = .ok (.getfield 18, 3) := by decide +kernel
theorem dX5_split_34 : decode cX5_split 34 = .ok (.getfield 66, 3) := by decide +kernel
theorem dX5_split_37 : decode cX5_split 37 = .ok (.istore_n 3, 1) := by decide +kernel
theorem dX5_split_38 : decode cX5_split 38 = .ok (.aload_n 0, 1) := by decide +kernel
theorem dX5_split_39 : decode cX5_split 39 = .ok (.getfield 18, 3) := by decide +kernel
theorem dX5_split_42 : decode cX5_split 42 = .ok (.iload_n 1, 1) := by decide +kernel
theorem dX5_split_43 : decode cX5_split 43 = .ok (.iload_n 2, 1) := by decide +kernel
theorem dX5_split_44 : decode cX5_split 44 = .ok (.invokevirtual 81, 3) := by decide +kernel
theorem dX5_split_47 : decode cX5_split 47 = .ok (.iconst 0, 1) := by decide +kernel
theorem dX5_split_48 : decode cX5_split 48 = .ok (.istore 4, 2) := by decide +kernel
theorem dX5_split_50 : decode cX5_split 50 = .ok (.iload 4, 2) := by decide +kernel
theorem dX5_split_52 : decode cX5_split 52 = .ok (.bipush 6, 2) := by decide +kernel
theorem dX5_split_54 : decode cX5_split 54 = .ok (.if_icmp .ge 15, 3) := by decide +kernel
theorem dX5_split_57 : decode cX5_split 57 = .ok (.aload_n 0, 1) := by decide +kernel
theorem dX5_split_58 : decode cX5_split 58 = .ok (.iload 4, 2) := by decide +kernel
theorem dX5_split_60 : decode cX5_split 60 = .ok (.invokevirtual 84, 3) := by decide +kernel
theorem dX5_split_63 : decode cX5_split 63 = .ok (.iinc 4 1, 3) := by decide +kernel
theorem dX5_split_66 : decode cX5_split 66 = .ok (.goto (-16), 3) := by decide +kernel
theorem dX5_split_69 : decode cX5_split 69 = .ok (.aload_n 0, 1) := by decide +kernel
theorem dX5_split_70 : decode cX5_split 70 = .ok (.dup, 1) := by decide +kernel
theorem dX5_split_71 : decode cX5_split 71 = .ok (.getfield 43, 3) := by decide +kernel
theorem dX5_split_74 : decode cX5_split 74 = .ok (.iconst 1, 1) := by decide +kernel
theorem dX5_split_75 : decode cX5_split 75 = .ok (.iadd, 1) := by decide +kernel
theorem dX5_split_76 : decode cX5_split 76 = .ok (.putfield 43, 3) := by decide +kernel
theorem dX5_split_79 : decode cX5_split 79 = .ok (.iload_n 3, 1) := by decide +kernel
theorem dX5_split_80 : decode cX5_split 80 = .ok (.aload_n 0, 1) := by decide +kernel
theorem dX5_split_81 : decode cX5_split 81 = .ok (.getfield 18, 3) := by decide +kernel
theorem dX5_split_84 : decode cX5_split 84 = .ok (.getfield 66, 3) := by decide +kernel
theorem dX5_split_87 : decode cX5_split 87 = .ok (.isub, 1) := by decide +kernel
theorem dX5_split_88 : decode cX5_split 88 = .ok (.ireturn, 1) := by decide +kernel
theorem dX5_deliver_0 : decode cX5_deliver 0 = .ok (.iload_n 1, 1) := by decide +kernel
theorem dX5_deliver_1 : decode cX5_deliver 1 = .ok (.invokestatic 47, 3) := by decide +kernel
theorem dX5_deliver_4 : decode cX5_deliver 4 = .ok (.iload_n 2, 1) := by decide +kernel
theorem dX5_deliver_5 : decode cX5_deliver 5 = .ok (.invokestatic 47, 3) := by decide +kernel
theorem dX5_deliver_8 : decode cX5_deliver 8 = .ok (.aload_n 0, 1) := by decide +kernel
theorem dX5_deliver_9 : decode cX5_deliver 9 = .ok (.getfield 18, 3) := by decide +kernel
theorem dX5_deliver_12 : decode cX5_deliver 12 = .ok (.iload_n 1, 1) := by decide +kernel
theorem dX5_deliver_13 : decode cX5_deliver 13 = .ok (.iload_n 2, 1) := by decide +kernel
theorem dX5_deliver_14 : decode cX5_deliver 14 = .ok (.invokevirtual 76, 3) := by decide +kernel
theorem dX5_deliver_17 : decode cX5_deliver 17 = .ok (.ifCond .ne 13, 3) := by decide +kernel
theorem dX5_deliver_20 : decode cX5_deliver 20 = .ok (.new 59, 3) := by decide +kernel
theorem dX5_deliver_23 : decode cX5_deliver 23 = .ok (.dup, 1) := by decide +kernel
theorem dX5_deliver_24 : decode cX5_deliver 24 = .ok (.ldc 79, 2) := by decide +kernel
theorem dX5_deliver_26 : decode cX5_deliver 26 = .ok (.invokespecial 63, 3) := by decide +kernel
theorem dX5_deliver_29 : decode cX5_deliver 29 = .ok (.athrow, 1) := by decide +kernel
theorem dX5_deliver_30 : decode cX5_deliver 30 = .ok (.aload_n 0, 1) := by decide +kernel
theorem dX5_deliver_31 : decode cX5_deliver 31 = .ok (.iload_n 1, 1) := by decide +kernel
theorem dX5_deliver_32 : decode cX5_deliver 32 = .ok (.iload_n 2, 1) := by decide +kernel
theorem dX5_deliver_33 : decode cX5_deliver 33 = .ok (.invokevirtual 87, 3) := by decide +kernel
theorem dX5_deliver_36 : decode cX5_deliver 36 = .ok (.ifCond .ne 13, 3) := by decide +kernel
theorem dX5_deliver_39 : decode cX5_deliver 39 = .ok (.new 59, 3) := by decide +kernel
theorem dX5_deliver_42 : decode cX5_deliver 42 = .ok (.dup, 1) := by decide +kernel
theorem dX5_deliver_43 : decode cX5_deliver 43 = .ok (.ldc 90, 2) := by decide +kernel
theorem dX5_deliver_45 : decode cX5_deliver 45 = .ok (.invokespecial 63, 3) := by decide +kernel
theorem dX5_deliver_48 : decode cX5_deliver 48 = .ok (.athrow, 1) := by decide +kernel
theorem dX5_deliver_49 : decode cX5_deliver 49 = .ok (.aload_n 0, 1) := by decide +kernel
theorem dX5_deliver_50 : decode cX5_deliver 50 = .ok (.dup, 1) := by decide +kernel
theorem dX5_deliver_51 : decode cX5_deliver 51 = .ok (.getfield 43, 3) := by decide +kernel
theorem dX5_deliver_54 : decode cX5_deliver 54 = .ok (.iconst 1, 1) := by decide +kernel
theorem dX5_deliver_55 : decode cX5_deliver 55 = .ok (.iadd, 1) := by decide +kernel
theorem dX5_deliver_56 : decode cX5_deliver 56 = .ok (.putfield 43, 3) := by decide +kernel
theorem dX5_deliver_59 : decode cX5_deliver 59 = .ok (.aload_n 0, 1) := by decide +kernel
theorem dX5_deliver_60 : decode cX5_deliver 60 = .ok (.getfield 18, 3) := by decide +kernel
theorem dX5_deliver_63 : decode cX5_deliver 63 = .ok (.getfield 66, 3) := by decide +kernel
theorem dX5_deliver_66 : decode cX5_deliver 66 = .ok (.ireturn, 1) := by decide +kernel
theorem dX5_deliverAll_0 : decode cX5_deliverAll 0 = .ok (.iconst 0, 1) := by decide +kernel
theorem dX5_deliverAll_1 : decode cX5_deliverAll 1 = .ok (.istore_n 1, 1) := by decide +kernel
theorem dX5_deliverAll_2 : decode cX5_deliverAll 2 = .ok (.iconst 0, 1) := by decide +kernel
theorem dX5_deliverAll_3 : decode cX5_deliverAll 3 = .ok (.istore_n 2, 1) := by decide +kernel
theorem dX5_deliverAll_4 : decode cX5_deliverAll 4 = .ok (.iload_n 2, 1) := by decide +kernel
theorem dX5_deliverAll_5 : decode cX5_deliverAll 5 = .ok (.ldc 92, 2) := by decide +kernel
theorem dX5_deliverAll_7 : decode cX5_deliverAll 7 = .ok (.if_icmp .ge 26, 3) := by decide +kernel
theorem dX5_deliverAll_10 : decode cX5_deliverAll 10 = .ok (.aload_n 0, 1) := by decide +kernel
theorem dX5_deliverAll_11 : decode cX5_deliverAll 11 = .ok (.getfield 18, 3) := by decide +kernel
theorem dX5_deliverAll_14 : decode cX5_deliverAll 14 = .ok (.getfield 66, 3) := by decide +kernel
theorem dX5_deliverAll_17 : decode cX5_deliverAll 17 = .ok (.ifCond .le 16, 3) := by decide +kernel
theorem dX5_deliverAll_20 : decode cX5_deliverAll 20 = .ok (.iload_n 1, 1) := by decide +kernel
theorem dX5_deliverAll_21 : decode cX5_deliverAll 21 = .ok (.aload_n 0, 1) := by decide +kernel
theorem dX5_deliverAll_22 : decode cX5_deliverAll 22 = .ok (.invokevirtual 93, 3) := by decide +kernel
theorem dX5_deliverAll_25 : decode cX5_deliverAll 25 = .ok (.iadd, 1) := by decide +kernel
theorem dX5_deliverAll_26 : decode cX5_deliverAll 26 = .ok (.istore_n 1, 1) := by decide +kernel
theorem dX5_deliverAll_27 : decode cX5_deliverAll 27 = .ok (.iinc 2 1, 3) := by decide +kernel
theorem dX5_deliverAll_30 : decode cX5_deliverAll 30 = .ok (.goto (-26), 3) := by decide +kernel
theorem dX5_deliverAll_33 : decode cX5_deliverAll 33 = .ok (.aload_n 0, 1) := by decide +kernel
theorem dX5_deliverAll_34 : decode cX5_deliverAll 34 = .ok (.dup, 1) := by decide +kernel
theorem dX5_deliverAll_35 : decode cX5_deliverAll 35 = .ok (.getfield 43, 3) := by decide +kernel
theorem dX5_deliverAll_38 : decode cX5_deliverAll 38 = .ok (.iconst 1, 1) := by decide +kernel
theorem dX5_deliverAll_39 : decode cX5_deliverAll 39 = .ok (.iadd, 1) := by decide +kernel
theorem dX5_deliverAll_40 : decode cX5_deliverAll 40 = .ok (.putfield 43, 3) := by decide +kernel
theorem dX5_deliverAll_43 : decode cX5_deliverAll 43 = .ok (.iload_n 1, 1) := by decide +kernel
theorem dX5_deliverAll_44 : decode cX5_deliverAll 44 = .ok (.ireturn, 1) := by decide +kernel
theorem dX5_lines_0 : decode cX5_lines 0 = .ok (.aload_n 0, 1) := by decide +kernel
theorem dX5_lines_1 : decode cX5_lines 1 = .ok (.getfield 18, 3) := by decide +kernel
theorem dX5_lines_4 : decode cX5_lines 4 = .ok (.getfield 66, 3) := by decide +kernel
theorem dX5_lines_7 : decode cX5_lines 7 = .ok (.ireturn, 1) := by decide +kernel
theorem dX5_tree_0 : decode cX5_tree 0 = .ok (.iload_n 1, 1) := by decide +kernel
theorem dX5_tree_1 : decode cX5_tree 1 = .ok (.invokestatic 47, 3) := by decide +kernel
theorem dX5_tree_4 : decode cX5_tree 4 = .ok (.aload_n 0, 1) := by decide +kernel
theorem dX5_tree_5 : decode cX5_tree 5 = .ok (.getfield 18, 3) := by decide +kernel
theorem dX5_tree_8 : decode cX5_tree 8 = .ok (.iload_n 1, 1) := by decide +kernel
theorem dX5_tree_9 : decode cX5_tree 9 = .ok (.invokevirtual 51, 3) := by decide +kernel
theorem dX5_tree_12 : decode cX5_tree 12 = .ok (.ireturn, 1) := by decide +kernel
theorem dX5_signOn_0 : decode cX5_signOn 0 = .ok (.iload_n 1, 1) := by decide +kernel
theorem dX5_signOn_1 : decode cX5_signOn 1 = .ok (.invokestatic 47, 3) := by decide +kernel
theorem dX5_signOn_4 : decode cX5_signOn 4 = .ok (.iload_n 2, 1) := by decide +kernel
theorem dX5_signOn_5 : decode cX5_signOn 5 = .ok (.invokestatic 97, 3) := by decide +kernel
theorem dX5_signOn_8 : decode cX5_signOn 8 = .ok (.istore_n 3, 1) := by decide +kernel
theorem dX5_signOn_9 : decode cX5_signOn 9 = .ok (.iload_n 3, 1) := by decide +kernel
theorem dX5_signOn_10 : decode cX5_signOn 10 = .ok (.iconst (-1), 1) := by decide +kernel
theorem dX5_signOn_11 : decode cX5_signOn 11 = .ok (.if_icmp .ne 13, 3) := by decide +kernel
theorem dX5_signOn_14 : decode cX5_signOn 14 = .ok (.new 101, 3) := by decide +kernel
theorem dX5_signOn_17 : decode cX5_signOn 17 = .ok (.dup, 1) := by decide +kernel
theorem dX5_signOn_18 : decode cX5_signOn 18 = .ok (.ldc 103, 2) := by decide +kernel
theorem dX5_signOn_20 : decode cX5_signOn 20 = .ok (.invokespecial 105, 3) := by decide +kernel
theorem dX5_signOn_23 : decode cX5_signOn 23 = .ok (.athrow, 1) := by decide +kernel
theorem dX5_signOn_24 : decode cX5_signOn 24 = .ok (.aload_n 0, 1) := by decide +kernel
theorem dX5_signOn_25 : decode cX5_signOn 25 = .ok (.getfield 11, 3) := by decide +kernel
theorem dX5_signOn_28 : decode cX5_signOn 28 = .ok (.iload_n 1, 1) := by decide +kernel
theorem dX5_signOn_29 : decode cX5_signOn 29 = .ok (.aaload, 1) := by decide +kernel
theorem dX5_signOn_30 : decode cX5_signOn 30 = .ok (.astore 4, 2) := by decide +kernel
theorem dX5_signOn_32 : decode cX5_signOn 32 = .ok (.aload_n 0, 1) := by decide +kernel
theorem dX5_signOn_33 : decode cX5_signOn 33 = .ok (.getfield 39, 3) := by decide +kernel
theorem dX5_signOn_36 : decode cX5_signOn 36 = .ok (.bipush 20, 2) := by decide +kernel
theorem dX5_signOn_38 : decode cX5_signOn 38 = .ok (.if_icmp .ge 15, 3) := by decide +kernel
theorem dX5_signOn_41 : decode cX5_signOn 41 = .ok (.aload_n 0, 1) := by decide +kernel
theorem dX5_signOn_42 : decode cX5_signOn 42 = .ok (.aload 4, 2) := by decide +kernel
theorem dX5_signOn_44 : decode cX5_signOn 44 = .ok (.iload_n 3, 1) := by decide +kernel
theorem dX5_signOn_45 : decode cX5_signOn 45 = .ok (.iconst (-1), 1) := by decide +kernel
theorem dX5_signOn_46 : decode cX5_signOn 46 = .ok (.invokevirtual 106, 3) := by decide +kernel
theorem dX5_signOn_49 : decode cX5_signOn 49 = .ok (.iconst (-1), 1) := by decide +kernel
theorem dX5_signOn_50 : decode cX5_signOn 50 = .ok (.if_icmp .eq 13, 3) := by decide +kernel
theorem dX5_signOn_53 : decode cX5_signOn 53 = .ok (.new 59, 3) := by decide +kernel
theorem dX5_signOn_56 : decode cX5_signOn 56 = .ok (.dup, 1) := by decide +kernel
theorem dX5_signOn_57 : decode cX5_signOn 57 = .ok (.ldc 110, 2) := by decide +kernel
theorem dX5_signOn_59 : decode cX5_signOn 59 = .ok (.invokespecial 63, 3) := by decide +kernel
theorem dX5_signOn_62 : decode cX5_signOn 62 = .ok (.athrow, 1) := by decide +kernel
theorem dX5_signOn_63 : decode cX5_signOn 63 = .ok (.aload_n 0, 1) := by decide +kernel
theorem dX5_signOn_64 : decode cX5_signOn 64 = .ok (.getfield 39, 3) := by decide +kernel
theorem dX5_signOn_67 : decode cX5_signOn 67 = .ok (.istore 5, 2) := by decide +kernel
theorem dX5_signOn_69 : decode cX5_signOn 69 = .ok (.aload_n 0, 1) := by decide +kernel
theorem dX5_signOn_70 : decode cX5_signOn 70 = .ok (.getfield 22, 3) := by decide +kernel
theorem dX5_signOn_73 : decode cX5_signOn 73 = .ok (.iload 5, 2) := by decide +kernel
theorem dX5_signOn_75 : decode cX5_signOn 75 = .ok (.iload_n 1, 1) := by decide +kernel
theorem dX5_signOn_76 : decode cX5_signOn 76 = .ok (.iastore, 1) := by decide +kernel
theorem dX5_signOn_77 : decode cX5_signOn 77 = .ok (.aload_n 0, 1) := by decide +kernel
theorem dX5_signOn_78 : decode cX5_signOn 78 = .ok (.getfield 26, 3) := by decide +kernel
theorem dX5_signOn_81 : decode cX5_signOn 81 = .ok (.iload 5, 2) := by decide +kernel
theorem dX5_signOn_83 : decode cX5_signOn 83 = .ok (.iload_n 3, 1) := by decide +kernel
theorem dX5_signOn_84 : decode cX5_signOn 84 = .ok (.iastore, 1) := by decide +kernel
theorem dX5_signOn_85 : decode cX5_signOn 85 = .ok (.aload_n 0, 1) := by decide +kernel
theorem dX5_signOn_86 : decode cX5_signOn 86 = .ok (.getfield 29, 3) := by decide +kernel
theorem dX5_signOn_89 : decode cX5_signOn 89 = .ok (.iload 5, 2) := by decide +kernel
theorem dX5_signOn_91 : decode cX5_signOn 91 = .ok (.aload_n 0, 1) := by decide +kernel
theorem dX5_signOn_92 : decode cX5_signOn 92 = .ok (.getfield 43, 3) := by decide +kernel
theorem dX5_signOn_95 : decode cX5_signOn 95 = .ok (.iastore, 1) := by decide +kernel
theorem dX5_signOn_96 : decode cX5_signOn 96 = .ok (.aload_n 0, 1) := by decide +kernel
theorem dX5_signOn_97 : decode cX5_signOn 97 = .ok (.dup, 1) := by decide +kernel
theorem dX5_signOn_98 : decode cX5_signOn 98 = .ok (.getfield 39, 3) := by decide +kernel
theorem dX5_signOn_101 : decode cX5_signOn 101 = .ok (.iconst 1, 1) := by decide +kernel
theorem dX5_signOn_102 : decode cX5_signOn 102 = .ok (.iadd, 1) := by decide +kernel
theorem dX5_signOn_103 : decode cX5_signOn 103 = .ok (.putfield 39, 3) := by decide +kernel
theorem dX5_signOn_106 : decode cX5_signOn 106 = .ok (.aload 4, 2) := by decide +kernel
theorem dX5_signOn_108 : decode cX5_signOn 108 = .ok (.iload 5, 2) := by decide +kernel
theorem dX5_signOn_110 : decode cX5_signOn 110 = .ok (.invokevirtual 112, 3) := by decide +kernel
theorem dX5_signOn_113 : decode cX5_signOn 113 = .ok (.aload_n 0, 1) := by decide +kernel
theorem dX5_signOn_114 : decode cX5_signOn 114 = .ok (.getfield 18, 3) := by decide +kernel
theorem dX5_signOn_117 : decode cX5_signOn 117 = .ok (.iload_n 1, 1) := by decide +kernel
theorem dX5_signOn_118 : decode cX5_signOn 118 = .ok (.iconst (-1), 1) := by decide +kernel
theorem dX5_signOn_119 : decode cX5_signOn 119 = .ok (.aload_n 0, 1) := by decide +kernel
theorem dX5_signOn_120 : decode cX5_signOn 120 = .ok (.getfield 35, 3) := by decide +kernel
theorem dX5_signOn_123 : decode cX5_signOn 123 = .ok (.iconst 0, 1) := by decide +kernel
theorem dX5_signOn_124 : decode cX5_signOn 124 = .ok (.iload 5, 2) := by decide +kernel
theorem dX5_signOn_126 : decode cX5_signOn 126 = .ok (.invokevirtual 115, 3) := by decide +kernel
theorem dX5_signOn_129 : decode cX5_signOn 129 = .ok (.invokevirtual 119, 3) := by decide +kernel
theorem dX5_signOn_132 : decode cX5_signOn 132 = .ok (.aload_n 0, 1) := by decide +kernel
theorem dX5_signOn_133 : decode cX5_signOn 133 = .ok (.dup, 1) := by decide +kernel
theorem dX5_signOn_134 : decode cX5_signOn 134 = .ok (.getfield 43, 3) := by decide +kernel
theorem dX5_signOn_137 : decode cX5_signOn 137 = .ok (.iconst 1, 1) := by decide +kernel
theorem dX5_signOn_138 : decode cX5_signOn 138 = .ok (.iadd, 1) := by decide +kernel
theorem dX5_signOn_139 : decode cX5_signOn 139 = .ok (.putfield 43, 3) := by decide +kernel
theorem dX5_signOn_142 : decode cX5_signOn 142 = .ok (.iload 5, 2) := by decide +kernel
theorem dX5_signOn_144 : decode cX5_signOn 144 = .ok (.ireturn, 1) := by decide +kernel
theorem dX5_quit_0 : decode cX5_quit 0 = .ok (.aload_n 0, 1) := by decide +kernel
theorem dX5_quit_1 : decode cX5_quit 1 = .ok (.iload_n 1, 1) := by decide +kernel
theorem dX5_quit_2 : decode cX5_quit 2 = .ok (.invokevirtual 123, 3) := by decide +kernel
theorem dX5_quit_5 : decode cX5_quit 5 = .ok (.aload_n 0, 1) := by decide +kernel
theorem dX5_quit_6 : decode cX5_quit 6 = .ok (.iload_n 1, 1) := by decide +kernel
theorem dX5_quit_7 : decode cX5_quit 7 = .ok (.invokevirtual 126, 3) := by decide +kernel
theorem dX5_quit_10 : decode cX5_quit 10 = .ok (.aload_n 0, 1) := by decide +kernel
theorem dX5_quit_11 : decode cX5_quit 11 = .ok (.getfield 22, 3) := by decide +kernel
theorem dX5_quit_14 : decode cX5_quit 14 = .ok (.iload_n 1, 1) := by decide +kernel
theorem dX5_quit_15 : decode cX5_quit 15 = .ok (.iaload, 1) := by decide +kernel
theorem dX5_quit_16 : decode cX5_quit 16 = .ok (.istore_n 2, 1) := by decide +kernel
theorem dX5_quit_17 : decode cX5_quit 17 = .ok (.aload_n 0, 1) := by decide +kernel
theorem dX5_quit_18 : decode cX5_quit 18 = .ok (.getfield 11, 3) := by decide +kernel
theorem dX5_quit_21 : decode cX5_quit 21 = .ok (.iload_n 2, 1) := by decide +kernel
theorem dX5_quit_22 : decode cX5_quit 22 = .ok (.aaload, 1) := by decide +kernel
theorem dX5_quit_23 : decode cX5_quit 23 = .ok (.iload_n 1, 1) := by decide +kernel
theorem dX5_quit_24 : decode cX5_quit 24 = .ok (.invokevirtual 129, 3) := by decide +kernel
theorem dX5_quit_27 : decode cX5_quit 27 = .ok (.aload_n 0, 1) := by decide +kernel
theorem dX5_quit_28 : decode cX5_quit 28 = .ok (.getfield 18, 3) := by decide +kernel
theorem dX5_quit_31 : decode cX5_quit 31 = .ok (.iload_n 2, 1) := by decide +kernel
theorem dX5_quit_32 : decode cX5_quit 32 = .ok (.iconst (-1), 1) := by decide +kernel
theorem dX5_quit_33 : decode cX5_quit 33 = .ok (.aload_n 0, 1) := by decide +kernel
theorem dX5_quit_34 : decode cX5_quit 34 = .ok (.getfield 35, 3) := by decide +kernel
theorem dX5_quit_37 : decode cX5_quit 37 = .ok (.iconst 1, 1) := by decide +kernel
theorem dX5_quit_38 : decode cX5_quit 38 = .ok (.iload_n 1, 1) := by decide +kernel
theorem dX5_quit_39 : decode cX5_quit 39 = .ok (.invokevirtual 115, 3) := by decide +kernel
theorem dX5_quit_42 : decode cX5_quit 42 = .ok (.invokevirtual 119, 3) := by decide +kernel
theorem dX5_quit_45 : decode cX5_quit 45 = .ok (.aload_n 0, 1) := by decide +kernel
theorem dX5_quit_46 : decode cX5_quit 46 = .ok (.dup, 1) := by decide +kernel
theorem dX5_quit_47 : decode cX5_quit 47 = .ok (.getfield 43, 3) := by decide +kernel
theorem dX5_quit_50 : decode cX5_quit 50 = .ok (.iconst 1, 1) := by decide +kernel
theorem dX5_quit_51 : decode cX5_quit 51 = .ok (.iadd, 1) := by decide +kernel
theorem dX5_quit_52 : decode cX5_quit 52 = .ok (.putfield 43, 3) := by decide +kernel
theorem dX5_quit_55 : decode cX5_quit 55 = .ok (.return_, 1) := by decide +kernel
theorem dX5_join_0 : decode cX5_join 0 = .ok (.aload_n 0, 1) := by decide +kernel
theorem dX5_join_1 : decode cX5_join 1 = .ok (.iload_n 1, 1) := by decide +kernel
theorem dX5_join_2 : decode cX5_join 2 = .ok (.invokevirtual 123, 3) := by decide +kernel
theorem dX5_join_5 : decode cX5_join 5 = .ok (.iload_n 2, 1) := by decide +kernel
theorem dX5_join_6 : decode cX5_join 6 = .ok (.invokestatic 132, 3) := by decide +kernel
theorem dX5_join_9 : decode cX5_join 9 = .ok (.aload_n 0, 1) := by decide +kernel
theorem dX5_join_10 : decode cX5_join 10 = .ok (.iload_n 1, 1) := by decide +kernel
theorem dX5_join_11 : decode cX5_join 11 = .ok (.invokevirtual 126, 3) := by decide +kernel
theorem dX5_join_14 : decode cX5_join 14 = .ok (.aload_n 0, 1) := by decide +kernel
theorem dX5_join_15 : decode cX5_join 15 = .ok (.getfield 22, 3) := by decide +kernel
theorem dX5_join_18 : decode cX5_join 18 = .ok (.iload_n 1, 1) := by decide +kernel
theorem dX5_join_19 : decode cX5_join 19 = .ok (.iaload, 1) := by decide +kernel
theorem dX5_join_20 : decode cX5_join 20 = .ok (.istore_n 3, 1) := by decide +kernel
theorem dX5_join_21 : decode cX5_join 21 = .ok (.aload_n 0, 1) := by decide +kernel
theorem dX5_join_22 : decode cX5_join 22 = .ok (.getfield 11, 3) := by decide +kernel
theorem dX5_join_25 : decode cX5_join 25 = .ok (.iload_n 3, 1) := by decide +kernel
theorem dX5_join_26 : decode cX5_join 26 = .ok (.aaload, 1) := by decide +kernel
theorem dX5_join_27 : decode cX5_join 27 = .ok (.getfield 135, 3) := by decide +kernel
theorem dX5_join_30 : decode cX5_join 30 = .ok (.iload_n 2, 1) := by decide +kernel
theorem dX5_join_31 : decode cX5_join 31 = .ok (.aaload, 1) := by decide +kernel
theorem dX5_join_32 : decode cX5_join 32 = .ok (.astore 4, 2) := by decide +kernel
theorem dX5_join_34 : decode cX5_join 34 = .ok (.aload 4, 2) := by decide +kernel
theorem dX5_join_36 : decode cX5_join 36 = .ok (.getfield 139, 3) := by decide +kernel
theorem dX5_join_39 : decode cX5_join 39 = .ok (.iload_n 1, 1) := by decide +kernel
theorem dX5_join_40 : decode cX5_join 40 = .ok (.invokestatic 55, 3) := by decide +kernel
theorem dX5_join_43 : decode cX5_join 43 = .ok (.ifCond .eq 13, 3) := by decide +kernel
theorem dX5_join_46 : decode cX5_join 46 = .ok (.new 59, 3) := by decide +kernel
theorem dX5_join_49 : decode cX5_join 49 = .ok (.dup, 1) := by decide +kernel
theorem dX5_join_50 : decode cX5_join 50 = .ok (.ldc 144, 2) := by decide +kernel
theorem dX5_join_52 : decode cX5_join 52 = .ok (.invokespecial 63, 3) := by decide +kernel
theorem dX5_join_55 : decode cX5_join 55 = .ok (.athrow, 1) := by decide +kernel
theorem dX5_join_56 : decode cX5_join 56 = .ok (.aload 4, 2) := by decide +kernel
theorem dX5_join_58 : decode cX5_join 58 = .ok (.invokevirtual 146, 3) := by decide +kernel
theorem dX5_join_61 : decode cX5_join 61 = .ok (.ifCond .eq 30, 3) := by decide +kernel
theorem dX5_join_64 : decode cX5_join 64 = .ok (.aload 4, 2) := by decide +kernel
theorem dX5_join_66 : decode cX5_join 66 = .ok (.getfield 150, 3) := by decide +kernel
theorem dX5_join_69 : decode cX5_join 69 = .ok (.aload_n 0, 1) := by decide +kernel
theorem dX5_join_70 : decode cX5_join 70 = .ok (.getfield 26, 3) := by decide +kernel
theorem dX5_join_73 : decode cX5_join 73 = .ok (.iload_n 1, 1) := by decide +kernel
theorem dX5_join_74 : decode cX5_join 74 = .ok (.iaload, 1) := by decide +kernel
theorem dX5_join_75 : decode cX5_join 75 = .ok (.invokestatic 55, 3) := by decide +kernel
theorem dX5_join_78 : decode cX5_join 78 = .ok (.ifCond .eq 13, 3) := by decide +kernel
theorem dX5_join_81 : decode cX5_join 81 = .ok (.new 59, 3) := by decide +kernel
theorem dX5_join_84 : decode cX5_join 84 = .ok (.dup, 1) := by decide +kernel
theorem dX5_join_85 : decode cX5_join 85 = .ok (.ldc 153, 2) := by decide +kernel
theorem dX5_join_87 : decode cX5_join 87 = .ok (.invokespecial 63, 3) := by decide +kernel
theorem dX5_join_90 : decode cX5_join 90 = .ok (.athrow, 1) := by decide +kernel
theorem dX5_join_91 : decode cX5_join 91 = .ok (.aload 4, 2) := by decide +kernel
theorem dX5_join_93 : decode cX5_join 93 = .ok (.iload_n 1, 1) := by decide +kernel
theorem dX5_join_94 : decode cX5_join 94 = .ok (.aload_n 0, 1) := by decide +kernel
theorem dX5_join_95 : decode cX5_join 95 = .ok (.getfield 43, 3) := by decide +kernel
theorem dX5_join_98 : decode cX5_join 98 = .ok (.invokevirtual 155, 3) := by decide +kernel
theorem dX5_join_101 : decode cX5_join 101 = .ok (.aload_n 0, 1) := by decide +kernel
theorem dX5_join_102 : decode cX5_join 102 = .ok (.getfield 18, 3) := by decide +kernel
theorem dX5_join_105 : decode cX5_join 105 = .ok (.iload_n 3, 1) := by decide +kernel
theorem dX5_join_106 : decode cX5_join 106 = .ok (.iconst (-1), 1) := by decide +kernel
theorem dX5_join_107 : decode cX5_join 107 = .ok (.aload_n 0, 1) := by decide +kernel
theorem dX5_join_108 : decode cX5_join 108 = .ok (.getfield 35, 3) := by decide +kernel
theorem dX5_join_111 : decode cX5_join 111 = .ok (.iconst 2, 1) := by decide +kernel
theorem dX5_join_112 : decode cX5_join 112 = .ok (.iload_n 2, 1) := by decide +kernel
theorem dX5_join_113 : decode cX5_join 113 = .ok (.aload 4, 2) := by decide +kernel
theorem dX5_join_115 : decode cX5_join 115 = .ok (.iconst 1, 1) := by decide +kernel
theorem dX5_join_116 : decode cX5_join 116 = .ok (.iload_n 1, 1) := by decide +kernel
theorem dX5_join_117 : decode cX5_join 117 = .ok (.ishl, 1) := by decide +kernel
theorem dX5_join_118 : decode cX5_join 118 = .ok (.invokevirtual 158, 3) := by decide +kernel
theorem dX5_join_121 : decode cX5_join 121 = .ok (.invokevirtual 119, 3) := by decide +kernel
theorem dX5_join_124 : decode cX5_join 124 = .ok (.aload_n 0, 1) := by decide +kernel
theorem dX5_join_125 : decode cX5_join 125 = .ok (.dup, 1) := by decide +kernel
theorem dX5_join_126 : decode cX5_join 126 = .ok (.getfield 43, 3) := by decide +kernel
theorem dX5_join_129 : decode cX5_join 129 = .ok (.iconst 1, 1) := by decide +kernel
theorem dX5_join_130 : decode cX5_join 130 = .ok (.iadd, 1) := by decide +kernel
theorem dX5_join_131 : decode cX5_join 131 = .ok (.putfield 43, 3) := by decide +kernel
theorem dX5_join_134 : decode cX5_join 134 = .ok (.aload 4, 2) := by decide +kernel
theorem dX5_join_136 : decode cX5_join 136 = .ok (.getfield 139, 3) := by decide +kernel
theorem dX5_join_139 : decode cX5_join 139 = .ok (.invokestatic 162, 3) := by decide +kernel
theorem dX5_join_142 : decode cX5_join 142 = .ok (.ireturn, 1) := by decide +kernel
theorem dX5_leave_0 : decode cX5_leave 0 = .ok (.aload_n 0, 1) := by decide +kernel
theorem dX5_leave_1 : decode cX5_leave 1 = .ok (.iload_n 1, 1) := by decide +kernel
theorem dX5_leave_2 : decode cX5_leave 2 = .ok (.invokevirtual 123, 3) := by decide +kernel
theorem dX5_leave_5 : decode cX5_leave 5 = .ok (.iload_n 2, 1) := by decide +kernel
theorem dX5_leave_6 : decode cX5_leave 6 = .ok (.invokestatic 132, 3) := by decide +kernel
theorem dX5_leave_9 : decode cX5_leave 9 = .ok (.aload_n 0, 1) := by decide +kernel
theorem dX5_leave_10 : decode cX5_leave 10 = .ok (.iload_n 1, 1) := by decide +kernel
theorem dX5_leave_11 : decode cX5_leave 11 = .ok (.invokevirtual 126, 3) := by decide +kernel
theorem dX5_leave_14 : decode cX5_leave 14 = .ok (.aload_n 0, 1) := by decide +kernel
theorem dX5_leave_15 : decode cX5_leave 15 = .ok (.iload_n 1, 1) := by decide +kernel
theorem dX5_leave_16 : decode cX5_leave 16 = .ok (.iload_n 2, 1) := by decide +kernel
theorem dX5_leave_17 : decode cX5_leave 17 = .ok (.invokevirtual 167, 3) := by decide +kernel
theorem dX5_leave_20 : decode cX5_leave 20 = .ok (.aload_n 0, 1) := by decide +kernel
theorem dX5_leave_21 : decode cX5_leave 21 = .ok (.getfield 22, 3) := by decide +kernel
theorem dX5_leave_24 : decode cX5_leave 24 = .ok (.iload_n 1, 1) := by decide +kernel
theorem dX5_leave_25 : decode cX5_leave 25 = .ok (.iaload, 1) := by decide +kernel
theorem dX5_leave_26 : decode cX5_leave 26 = .ok (.istore_n 3, 1) := by decide +kernel
theorem dX5_leave_27 : decode cX5_leave 27 = .ok (.aload_n 0, 1) := by decide +kernel
theorem dX5_leave_28 : decode cX5_leave 28 = .ok (.getfield 11, 3) := by decide +kernel
theorem dX5_leave_31 : decode cX5_leave 31 = .ok (.iload_n 3, 1) := by decide +kernel
theorem dX5_leave_32 : decode cX5_leave 32 = .ok (.aaload, 1) := by decide +kernel
theorem dX5_leave_33 : decode cX5_leave 33 = .ok (.getfield 135, 3) := by decide +kernel
theorem dX5_leave_36 : decode cX5_leave 36 = .ok (.iload_n 2, 1) := by decide +kernel
theorem dX5_leave_37 : decode cX5_leave 37 = .ok (.aaload, 1) := by decide +kernel
theorem dX5_leave_38 : decode cX5_leave 38 = .ok (.iload_n 1, 1) := by decide +kernel
theorem dX5_leave_39 : decode cX5_leave 39 = .ok (.invokevirtual 170, 3) := by decide +kernel
theorem dX5_leave_42 : decode cX5_leave 42 = .ok (.aload_n 0, 1) := by decide +kernel
theorem dX5_leave_43 : decode cX5_leave 43 = .ok (.getfield 18, 3) := by decide +kernel
theorem dX5_leave_46 : decode cX5_leave 46 = .ok (.iload_n 3, 1) := by decide +kernel
theorem dX5_leave_47 : decode cX5_leave 47 = .ok (.iconst (-1), 1) := by decide +kernel
theorem dX5_leave_48 : decode cX5_leave 48 = .ok (.aload_n 0, 1) := by decide +kernel
theorem dX5_leave_49 : decode cX5_leave 49 = .ok (.getfield 35, 3) := by decide +kernel
theorem dX5_leave_52 : decode cX5_leave 52 = .ok (.iload_n 2, 1) := by decide +kernel
theorem dX5_leave_53 : decode cX5_leave 53 = .ok (.iload_n 1, 1) := by decide +kernel
theorem dX5_leave_54 : decode cX5_leave 54 = .ok (.invokevirtual 173, 3) := by decide +kernel
theorem dX5_leave_57 : decode cX5_leave 57 = .ok (.invokevirtual 119, 3) := by decide +kernel
theorem dX5_leave_60 : decode cX5_leave 60 = .ok (.aload_n 0, 1) := by decide +kernel
theorem dX5_leave_61 : decode cX5_leave 61 = .ok (.dup, 1) := by decide +kernel
theorem dX5_leave_62 : decode cX5_leave 62 = .ok (.getfield 43, 3) := by decide +kernel
theorem dX5_leave_65 : decode cX5_leave 65 = .ok (.iconst 1, 1) := by decide +kernel
theorem dX5_leave_66 : decode cX5_leave 66 = .ok (.iadd, 1) := by decide +kernel
theorem dX5_leave_67 : decode cX5_leave 67 = .ok (.putfield 43, 3) := by decide +kernel
theorem dX5_leave_70 : decode cX5_leave 70 = .ok (.return_, 1) := by decide +kernel
theorem dX5_setModes_0 : decode cX5_setModes 0 = .ok (.aload_n 0, 1) := by decide +kernel
theorem dX5_setModes_1 : decode cX5_setModes 1 = .ok (.iload_n 1, 1) := by decide +kernel
theorem dX5_setModes_2 : decode cX5_setModes 2 = .ok (.invokevirtual 123, 3) := by decide +kernel
theorem dX5_setModes_5 : decode cX5_setModes 5 = .ok (.iload_n 2, 1) := by decide +kernel
theorem dX5_setModes_6 : decode cX5_setModes 6 = .ok (.invokestatic 132, 3) := by decide +kernel
theorem dX5_setModes_9 : decode cX5_setModes 9 = .ok (.iload_n 3, 1) := by decide +kernel
theorem dX5_setModes_10 : decode cX5_setModes 10 = .ok (.ifCond .lt 21, 3) := by decide +kernel
theorem dX5_setModes_13 : decode cX5_setModes 13 = .ok (.iload_n 3, 1) := by decide +kernel
theorem dX5_setModes_14 : decode cX5_setModes 14 = .ok (.bipush 15, 2) := by decide +kernel
theorem dX5_setModes_16 : decode cX5_setModes 16 = .ok (.if_icmp .gt 15, 3) := by decide +kernel
theorem dX5_setModes_19 : decode cX5_setModes 19 = .ok (.iload 4, 2) := by decide +kernel
theorem dX5_setModes_21 : decode cX5_setModes 21 = .ok (.ifCond .lt 10, 3) := by decide +kernel
theorem dX5_setModes_24 : decode cX5_setModes 24 = .ok (.iload 4, 2) := by decide +kernel
theorem dX5_setModes_26 : decode cX5_setModes 26 = .ok (.ldc 176, 2) := by decide +kernel
theorem dX5_setModes_28 : decode cX5_setModes 28 = .ok (.if_icmp .le 13, 3) := by decide +kernel
theorem dX5_setModes_31 : decode cX5_setModes 31 = .ok (.new 101, 3) := by decide +kernel
theorem dX5_setModes_34 : decode cX5_setModes 34 = .ok (.dup, 1) := by decide +kernel
theorem dX5_setModes_35 : decode cX5_setModes 35 = .ok (.ldc 177, 2) := by decide +kernel
theorem dX5_setModes_37 : decode cX5_setModes 37 = .ok (.invokespecial 105, 3) := by decide +kernel
theorem dX5_setModes_40 : decode cX5_setModes 40 = .ok (.athrow, 1) := by decide +kernel
theorem dX5_setModes_41 : decode cX5_setModes 41 = .ok (.aload_n 0, 1) := by decide +kernel
theorem dX5_setModes_42 : decode cX5_setModes 42 = .ok (.iload_n 1, 1) := by decide +kernel
theorem dX5_setModes_43 : decode cX5_setModes 43 = .ok (.invokevirtual 126, 3) := by decide +kernel
theorem dX5_setModes_46 : decode cX5_setModes 46 = .ok (.aload_n 0, 1) := by decide +kernel
theorem dX5_setModes_47 : decode cX5_setModes 47 = .ok (.iload_n 1, 1) := by decide +kernel
theorem dX5_setModes_48 : decode cX5_setModes 48 = .ok (.iload_n 2, 1) := by decide +kernel
theorem dX5_setModes_49 : decode cX5_setModes 49 = .ok (.invokevirtual 167, 3) := by decide +kernel
theorem dX5_setModes_52 : decode cX5_setModes 52 = .ok (.aload_n 0, 1) := by decide +kernel
theorem dX5_setModes_53 : decode cX5_setModes 53 = .ok (.getfield 22, 3) := by decide +kernel
theorem dX5_setModes_56 : decode cX5_setModes 56 = .ok (.iload_n 1, 1) := by decide +kernel
theorem dX5_setModes_57 : decode cX5_setModes 57 = .ok (.iaload, 1) := by decide +kernel
theorem dX5_setModes_58 : decode cX5_setModes 58 = .ok (.istore 5, 2) := by decide +kernel
theorem dX5_setModes_60 : decode cX5_setModes 60 = .ok (.aload_n 0, 1) := by decide +kernel
theorem dX5_setModes_61 : decode cX5_setModes 61 = .ok (.getfield 11, 3) := by decide +kernel
theorem dX5_setModes_64 : decode cX5_setModes 64 = .ok (.iload 5, 2) := by decide +kernel
theorem dX5_setModes_66 : decode cX5_setModes 66 = .ok (.aaload, 1) := by decide +kernel
theorem dX5_setModes_67 : decode cX5_setModes 67 = .ok (.getfield 135, 3) := by decide +kernel
theorem dX5_setModes_70 : decode cX5_setModes 70 = .ok (.iload_n 2, 1) := by decide +kernel
theorem dX5_setModes_71 : decode cX5_setModes 71 = .ok (.aaload, 1) := by decide +kernel
theorem dX5_setModes_72 : decode cX5_setModes 72 = .ok (.astore 6, 2) := by decide +kernel
theorem dX5_setModes_74 : decode cX5_setModes 74 = .ok (.aload 6, 2) := by decide +kernel
theorem dX5_setModes_76 : decode cX5_setModes 76 = .ok (.getfield 179, 3) := by decide +kernel
theorem dX5_setModes_79 : decode cX5_setModes 79 = .ok (.istore 7, 2) := by decide +kernel
theorem dX5_setModes_81 : decode cX5_setModes 81 = .ok (.aload 6, 2) := by decide +kernel
theorem dX5_setModes_83 : decode cX5_setModes 83 = .ok (.iload_n 3, 1) := by decide +kernel
theorem dX5_setModes_84 : decode cX5_setModes 84 = .ok (.putfield 179, 3) := by decide +kernel
theorem dX5_setModes_87 : decode cX5_setModes 87 = .ok (.aload 6, 2) := by decide +kernel
theorem dX5_setModes_89 : decode cX5_setModes 89 = .ok (.iload 4, 2) := by decide +kernel
theorem dX5_setModes_91 : decode cX5_setModes 91 = .ok (.putfield 150, 3) := by decide +kernel
theorem dX5_setModes_94 : decode cX5_setModes 94 = .ok (.aload_n 0, 1) := by decide +kernel
theorem dX5_setModes_95 : decode cX5_setModes 95 = .ok (.getfield 18, 3) := by decide +kernel
theorem dX5_setModes_98 : decode cX5_setModes 98 = .ok (.iload 5, 2) := by decide +kernel
theorem dX5_setModes_100 : decode cX5_setModes 100 = .ok (.iconst (-1), 1) := by decide +kernel
theorem dX5_setModes_101 : decode cX5_setModes 101 = .ok (.aload_n 0, 1) := by decide +kernel
theorem dX5_setModes_102 : decode cX5_setModes 102 = .ok (.getfield 35, 3) := by decide +kernel
theorem dX5_setModes_105 : decode cX5_setModes 105 = .ok (.iconst 4, 1) := by decide +kernel
theorem dX5_setModes_106 : decode cX5_setModes 106 = .ok (.iload_n 2, 1) := by decide +kernel
theorem dX5_setModes_107 : decode cX5_setModes 107 = .ok (.aload 6, 2) := by decide +kernel
theorem dX5_setModes_109 : decode cX5_setModes 109 = .ok (.iconst 0, 1) := by decide +kernel
theorem dX5_setModes_110 : decode cX5_setModes 110 = .ok (.invokevirtual 158, 3) := by decide +kernel
theorem dX5_setModes_113 : decode cX5_setModes 113 = .ok (.invokevirtual 119, 3) := by decide +kernel
theorem dX5_setModes_116 : decode cX5_setModes 116 = .ok (.aload_n 0, 1) := by decide +kernel
theorem dX5_setModes_117 : decode cX5_setModes 117 = .ok (.dup, 1) := by decide +kernel
theorem dX5_setModes_118 : decode cX5_setModes 118 = .ok (.getfield 43, 3) := by decide +kernel
theorem dX5_setModes_121 : decode cX5_setModes 121 = .ok (.iconst 1, 1) := by decide +kernel
theorem dX5_setModes_122 : decode cX5_setModes 122 = .ok (.iadd, 1) := by decide +kernel
theorem dX5_setModes_123 : decode cX5_setModes 123 = .ok (.putfield 43, 3) := by decide +kernel
theorem dX5_setModes_126 : decode cX5_setModes 126 = .ok (.iload 7, 2) := by decide +kernel
theorem dX5_setModes_128 : decode cX5_setModes 128 = .ok (.ireturn, 1) := by decide +kernel
theorem dX5_say_0 : decode cX5_say 0 = .ok (.aload_n 0, 1) := by decide +kernel
theorem dX5_say_1 : decode cX5_say 1 = .ok (.iload_n 1, 1) := by decide +kernel
theorem dX5_say_2 : decode cX5_say 2 = .ok (.invokevirtual 123, 3) := by decide +kernel
theorem dX5_say_5 : decode cX5_say 5 = .ok (.iload_n 2, 1) := by decide +kernel
theorem dX5_say_6 : decode cX5_say 6 = .ok (.invokestatic 132, 3) := by decide +kernel
theorem dX5_say_9 : decode cX5_say 9 = .ok (.aload_n 0, 1) := by decide +kernel
theorem dX5_say_10 : decode cX5_say 10 = .ok (.iload_n 1, 1) := by decide +kernel
theorem dX5_say_11 : decode cX5_say 11 = .ok (.invokevirtual 182, 3) := by decide +kernel
theorem dX5_say_14 : decode cX5_say 14 = .ok (.ifCond .eq 6, 3) := by decide +kernel
theorem dX5_say_17 : decode cX5_say 17 = .ok (.bipush (-2), 2) := by decide +kernel
theorem dX5_say_19 : decode cX5_say 19 = .ok (.ireturn, 1) := by decide +kernel
theorem dX5_say_20 : decode cX5_say 20 = .ok (.aload_n 0, 1) := by decide +kernel
theorem dX5_say_21 : decode cX5_say 21 = .ok (.getfield 11, 3) := by decide +kernel
theorem dX5_say_24 : decode cX5_say 24 = .ok (.aload_n 0, 1) := by decide +kernel
theorem dX5_say_25 : decode cX5_say 25 = .ok (.getfield 22, 3) := by decide +kernel
theorem dX5_say_28 : decode cX5_say 28 = .ok (.iload_n 1, 1) := by decide +kernel
theorem dX5_say_29 : decode cX5_say 29 = .ok (.iaload, 1) := by decide +kernel
theorem dX5_say_30 : decode cX5_say 30 = .ok (.aaload, 1) := by decide +kernel
theorem dX5_say_31 : decode cX5_say 31 = .ok (.getfield 135, 3) := by decide +kernel
theorem dX5_say_34 : decode cX5_say 34 = .ok (.iload_n 2, 1) := by decide +kernel
theorem dX5_say_35 : decode cX5_say 35 = .ok (.aaload, 1) := by decide +kernel
theorem dX5_say_36 : decode cX5_say 36 = .ok (.astore_n 3, 1) := by decide +kernel
theorem dX5_say_37 : decode cX5_say 37 = .ok (.aload_n 3, 1) := by decide +kernel
theorem dX5_say_38 : decode cX5_say 38 = .ok (.getfield 139, 3) := by decide +kernel
theorem dX5_say_41 : decode cX5_say 41 = .ok (.iload_n 1, 1) := by decide +kernel
theorem dX5_say_42 : decode cX5_say 42 = .ok (.invokestatic 55, 3) := by decide +kernel
theorem dX5_say_45 : decode cX5_say 45 = .ok (.ifCond .ne 6, 3) := by decide +kernel
theorem dX5_say_48 : decode cX5_say 48 = .ok (.bipush (-3), 2) := by decide +kernel
theorem dX5_say_50 : decode cX5_say 50 = .ok (.ireturn, 1) := by decide +kernel
theorem dX5_say_51 : decode cX5_say 51 = .ok (.aload_n 3, 1) := by decide +kernel
theorem dX5_say_52 : decode cX5_say 52 = .ok (.getfield 150, 3) := by decide +kernel
theorem dX5_say_55 : decode cX5_say 55 = .ok (.aload_n 0, 1) := by decide +kernel
theorem dX5_say_56 : decode cX5_say 56 = .ok (.getfield 26, 3) := by decide +kernel
theorem dX5_say_59 : decode cX5_say 59 = .ok (.iload_n 1, 1) := by decide +kernel
theorem dX5_say_60 : decode cX5_say 60 = .ok (.iaload, 1) := by decide +kernel
theorem dX5_say_61 : decode cX5_say 61 = .ok (.invokestatic 55, 3) := by decide +kernel
theorem dX5_say_64 : decode cX5_say 64 = .ok (.ifCond .eq 6, 3) := by decide +kernel
theorem dX5_say_67 : decode cX5_say 67 = .ok (.bipush (-4), 2) := by decide +kernel
theorem dX5_say_69 : decode cX5_say 69 = .ok (.ireturn, 1) := by decide +kernel
theorem dX5_say_70 : decode cX5_say 70 = .ok (.aload_n 3, 1) := by decide +kernel
theorem dX5_say_71 : decode cX5_say 71 = .ok (.getfield 179, 3) := by decide +kernel
theorem dX5_say_74 : decode cX5_say 74 = .ok (.iconst 0, 1) := by decide +kernel
theorem dX5_say_75 : decode cX5_say 75 = .ok (.invokestatic 55, 3) := by decide +kernel
theorem dX5_say_78 : decode cX5_say 78 = .ok (.ifCond .eq 18, 3) := by decide +kernel
theorem dX5_say_81 : decode cX5_say 81 = .ok (.aload_n 0, 1) := by decide +kernel
theorem dX5_say_82 : decode cX5_say 82 = .ok (.aload_n 3, 1) := by decide +kernel
theorem dX5_say_83 : decode cX5_say 83 = .ok (.getfield 139, 3) := by decide +kernel
theorem dX5_say_86 : decode cX5_say 86 = .ok (.invokevirtual 186, 3) := by decide +kernel
theorem dX5_say_89 : decode cX5_say 89 = .ok (.iload_n 1, 1) := by decide +kernel
theorem dX5_say_90 : decode cX5_say 90 = .ok (.if_icmp .eq 6, 3) := by decide +kernel
theorem dX5_say_93 : decode cX5_say 93 = .ok (.bipush (-5), 2) := by decide +kernel
theorem dX5_say_95 : decode cX5_say 95 = .ok (.ireturn, 1) := by decide +kernel
theorem dX5_say_96 : decode cX5_say 96 = .ok (.aload_n 0, 1) := by decide +kernel
theorem dX5_say_97 : decode cX5_say 97 = .ok (.getfield 18, 3) := by decide +kernel
theorem dX5_say_100 : decode cX5_say 100 = .ok (.aload_n 0, 1) := by decide +kernel
theorem dX5_say_101 : decode cX5_say 101 = .ok (.getfield 22, 3) := by decide +kernel
theorem dX5_say_104 : decode cX5_say 104 = .ok (.iload_n 1, 1) := by decide +kernel
theorem dX5_say_105 : decode cX5_say 105 = .ok (.iaload, 1) := by decide +kernel
theorem dX5_say_106 : decode cX5_say 106 = .ok (.aload_n 0, 1) := by decide +kernel
theorem dX5_say_107 : decode cX5_say 107 = .ok (.aload_n 3, 1) := by decide +kernel
theorem dX5_say_108 : decode cX5_say 108 = .ok (.getfield 139, 3) := by decide +kernel
theorem dX5_say_111 : decode cX5_say 111 = .ok (.iconst 1, 1) := by decide +kernel
theorem dX5_say_112 : decode cX5_say 112 = .ok (.iload_n 1, 1) := by decide +kernel
theorem dX5_say_113 : decode cX5_say 113 = .ok (.ishl, 1) := by decide +kernel
theorem dX5_say_114 : decode cX5_say 114 = .ok (.iconst (-1), 1) := by decide +kernel
theorem dX5_say_115 : decode cX5_say 115 = .ok (.ixor, 1) := by decide +kernel
theorem dX5_say_116 : decode cX5_say 116 = .ok (.iand, 1) := by decide +kernel
theorem dX5_say_117 : decode cX5_say 117 = .ok (.invokevirtual 189, 3) := by decide +kernel
theorem dX5_say_120 : decode cX5_say 120 = .ok (.invokevirtual 192, 3) := by decide +kernel
theorem dX5_say_123 : decode cX5_say 123 = .ok (.ireturn, 1) := by decide +kernel
theorem dX5_users_0 : decode cX5_users 0 = .ok (.aload_n 0, 1) := by decide +kernel
theorem dX5_users_1 : decode cX5_users 1 = .ok (.getfield 39, 3) := by decide +kernel
theorem dX5_users_4 : decode cX5_users 4 = .ok (.ireturn, 1) := by decide +kernel
theorem dX5_clock_0 : decode cX5_clock 0 = .ok (.aload_n 0, 1) := by decide +kernel
theorem dX5_clock_1 : decode cX5_clock 1 = .ok (.getfield 43, 3) := by decide +kernel
theorem dX5_clock_4 : decode cX5_clock 4 = .ok (.ireturn, 1) := by decide +kernel
theorem dX5_known_0 : decode cX5_known 0 = .ok (.iload_n 1, 1) := by decide +kernel
theorem dX5_known_1 : decode cX5_known 1 = .ok (.invokestatic 47, 3) := by decide +kernel
theorem dX5_known_4 : decode cX5_known 4 = .ok (.aload_n 0, 1) := by decide +kernel
theorem dX5_known_5 : decode cX5_known 5 = .ok (.getfield 11, 3) := by decide +kernel
theorem dX5_known_8 : decode cX5_known 8 = .ok (.iload_n 1, 1) := by decide +kernel
theorem dX5_known_9 : decode cX5_known 9 = .ok (.aaload, 1) := by decide +kernel
theorem dX5_known_10 : decode cX5_known 10 = .ok (.getfield 196, 3) := by decide +kernel
theorem dX5_known_13 : decode cX5_known 13 = .ok (.ireturn, 1) := by decide +kernel
theorem dX5_members_0 : decode cX5_members 0 = .ok (.iload_n 1, 1) := by decide +kernel
theorem dX5_members_1 : decode cX5_members 1 = .ok (.invokestatic 47, 3) := by decide +kernel
theorem dX5_members_4 : decode cX5_members 4 = .ok (.iload_n 2, 1) := by decide +kernel
theorem dX5_members_5 : decode cX5_members 5 = .ok (.invokestatic 132, 3) := by decide +kernel
theorem dX5_members_8 : decode cX5_members 8 = .ok (.aload_n 0, 1) := by decide +kernel
theorem dX5_members_9 : decode cX5_members 9 = .ok (.getfield 11, 3) := by decide +kernel
theorem dX5_members_12 : decode cX5_members 12 = .ok (.iload_n 1, 1) := by decide +kernel
theorem dX5_members_13 : decode cX5_members 13 = .ok (.aaload, 1) := by decide +kernel
theorem dX5_members_14 : decode cX5_members 14 = .ok (.getfield 135, 3) := by decide +kernel
theorem dX5_members_17 : decode cX5_members 17 = .ok (.iload_n 2, 1) := by decide +kernel
theorem dX5_members_18 : decode cX5_members 18 = .ok (.aaload, 1) := by decide +kernel
theorem dX5_members_19 : decode cX5_members 19 = .ok (.getfield 139, 3) := by decide +kernel
theorem dX5_members_22 : decode cX5_members 22 = .ok (.ireturn, 1) := by decide +kernel
theorem dX5_age_0 : decode cX5_age 0 = .ok (.iload_n 1, 1) := by decide +kernel
theorem dX5_age_1 : decode cX5_age 1 = .ok (.invokestatic 47, 3) := by decide +kernel
theorem dX5_age_4 : decode cX5_age 4 = .ok (.iload_n 2, 1) := by decide +kernel
theorem dX5_age_5 : decode cX5_age 5 = .ok (.invokestatic 132, 3) := by decide +kernel
theorem dX5_age_8 : decode cX5_age 8 = .ok (.aload_n 0, 1) := by decide +kernel
theorem dX5_age_9 : decode cX5_age 9 = .ok (.getfield 11, 3) := by decide +kernel
theorem dX5_age_12 : decode cX5_age 12 = .ok (.iload_n 1, 1) := by decide +kernel
theorem dX5_age_13 : decode cX5_age 13 = .ok (.aaload, 1) := by decide +kernel
theorem dX5_age_14 : decode cX5_age 14 = .ok (.getfield 135, 3) := by decide +kernel
theorem dX5_age_17 : decode cX5_age 17 = .ok (.iload_n 2, 1) := by decide +kernel
theorem dX5_age_18 : decode cX5_age 18 = .ok (.aaload, 1) := by decide +kernel
theorem dX5_age_19 : decode cX5_age 19 = .ok (.getfield 199, 3) := by decide +kernel
theorem dX5_age_22 : decode cX5_age 22 = .ok (.ireturn, 1) := by decide +kernel
theorem dX5_modes_0 : decode cX5_modes 0 = .ok (.iload_n 1, 1) := by decide +kernel
theorem dX5_modes_1 : decode cX5_modes 1 = .ok (.invokestatic 47, 3) := by decide +kernel
theorem dX5_modes_4 : decode cX5_modes 4 = .ok (.iload_n 2, 1) := by decide +kernel
theorem dX5_modes_5 : decode cX5_modes 5 = .ok (.invokestatic 132, 3) := by decide +kernel
theorem dX5_modes_8 : decode cX5_modes 8 = .ok (.aload_n 0, 1) := by decide +kernel
theorem dX5_modes_9 : decode cX5_modes 9 = .ok (.getfield 11, 3) := by decide +kernel
theorem dX5_modes_12 : decode cX5_modes 12 = .ok (.iload_n 1, 1) := by decide +kernel
theorem dX5_modes_13 : decode cX5_modes 13 = .ok (.aaload, 1) := by decide +kernel
theorem dX5_modes_14 : decode cX5_modes 14 = .ok (.getfield 135, 3) := by decide +kernel
theorem dX5_modes_17 : decode cX5_modes 17 = .ok (.iload_n 2, 1) := by decide +kernel
theorem dX5_modes_18 : decode cX5_modes 18 = .ok (.aaload, 1) := by decide +kernel
theorem dX5_modes_19 : decode cX5_modes 19 = .ok (.getfield 179, 3) := by decide +kernel
theorem dX5_modes_22 : decode cX5_modes 22 = .ok (.ireturn, 1) := by decide +kernel
theorem dX5_bans_0 : decode cX5_bans 0 = .ok (.iload_n 1, 1) := by decide +kernel
theorem dX5_bans_1 : decode cX5_bans 1 = .ok (.invokestatic 47, 3) := by decide +kernel
theorem dX5_bans_4 : decode cX5_bans 4 = .ok (.iload_n 2, 1) := by decide +kernel
theorem dX5_bans_5 : decode cX5_bans 5 = .ok (.invokestatic 132, 3) := by decide +kernel
theorem dX5_bans_8 : decode cX5_bans 8 = .ok (.aload_n 0, 1) := by decide +kernel
theorem dX5_bans_9 : decode cX5_bans 9 = .ok (.getfield 11, 3) := by decide +kernel
theorem dX5_bans_12 : decode cX5_bans 12 = .ok (.iload_n 1, 1) := by decide +kernel
theorem dX5_bans_13 : decode cX5_bans 13 = .ok (.aaload, 1) := by decide +kernel
theorem dX5_bans_14 : decode cX5_bans 14 = .ok (.getfield 135, 3) := by decide +kernel
theorem dX5_bans_17 : decode cX5_bans 17 = .ok (.iload_n 2, 1) := by decide +kernel
theorem dX5_bans_18 : decode cX5_bans 18 = .ok (.aaload, 1) := by decide +kernel
theorem dX5_bans_19 : decode cX5_bans 19 = .ok (.getfield 150, 3) := by decide +kernel
theorem dX5_bans_22 : decode cX5_bans 22 = .ok (.ireturn, 1) := by decide +kernel
theorem dX5_areSame_0 : decode cX5_areSame 0 = .ok (.iload_n 1, 1) := by decide +kernel
theorem dX5_areSame_1 : decode cX5_areSame 1 = .ok (.invokestatic 47, 3) := by decide +kernel
theorem dX5_areSame_4 : decode cX5_areSame 4 = .ok (.iload_n 2, 1) := by decide +kernel
theorem dX5_areSame_5 : decode cX5_areSame 5 = .ok (.invokestatic 47, 3) := by decide +kernel
theorem dX5_areSame_8 : decode cX5_areSame 8 = .ok (.aload_n 0, 1) := by decide +kernel
theorem dX5_areSame_9 : decode cX5_areSame 9 = .ok (.getfield 11, 3) := by decide +kernel
theorem dX5_areSame_12 : decode cX5_areSame 12 = .ok (.iload_n 1, 1) := by decide +kernel
theorem dX5_areSame_13 : decode cX5_areSame 13 = .ok (.aaload, 1) := by decide +kernel
theorem dX5_areSame_14 : decode cX5_areSame 14 = .ok (.aload_n 0, 1) := by decide +kernel
theorem dX5_areSame_15 : decode cX5_areSame 15 = .ok (.getfield 11, 3) := by decide +kernel
theorem dX5_areSame_18 : decode cX5_areSame 18 = .ok (.iload_n 2, 1) := by decide +kernel
theorem dX5_areSame_19 : decode cX5_areSame 19 = .ok (.aaload, 1) := by decide +kernel
theorem dX5_areSame_20 : decode cX5_areSame 20 = .ok (.invokevirtual 202, 3) := by decide +kernel
theorem dX5_areSame_23 : decode cX5_areSame 23 = .ok (.ireturn, 1) := by decide +kernel
theorem dX5_joinedModes_0 : decode cX5_joinedModes 0 = .ok (.iload_n 1, 1) := by decide +kernel
theorem dX5_joinedModes_1 : decode cX5_joinedModes 1 = .ok (.invokestatic 47, 3) := by decide +kernel
theorem dX5_joinedModes_4 : decode cX5_joinedModes 4 = .ok (.iload_n 2, 1) := by decide +kernel
theorem dX5_joinedModes_5 : decode cX5_joinedModes 5 = .ok (.invokestatic 47, 3) := by decide +kernel
theorem dX5_joinedModes_8 : decode cX5_joinedModes 8 = .ok (.iload_n 3, 1) := by decide +kernel
theorem dX5_joinedModes_9 : decode cX5_joinedModes 9 = .ok (.invokestatic 132, 3) := by decide +kernel
theorem dX5_joinedModes_12 : decode cX5_joinedModes 12 = .ok (.aload_n 0, 1) := by decide +kernel
theorem dX5_joinedModes_13 : decode cX5_joinedModes 13 = .ok (.getfield 11, 3) := by decide +kernel
theorem dX5_joinedModes_16 : decode cX5_joinedModes 16 = .ok (.iload_n 1, 1) := by decide +kernel
theorem dX5_joinedModes_17 : decode cX5_joinedModes 17 = .ok (.aaload, 1) := by decide +kernel
theorem dX5_joinedModes_18 : decode cX5_joinedModes 18 = .ok (.getfield 135, 3) := by decide +kernel
theorem dX5_joinedModes_21 : decode cX5_joinedModes 21 = .ok (.iload_n 3, 1) := by decide +kernel
theorem dX5_joinedModes_22 : decode cX5_joinedModes 22 = .ok (.aaload, 1) := by decide +kernel
theorem dX5_joinedModes_23 : decode cX5_joinedModes 23 = .ok (.astore 4, 2) := by decide +kernel
theorem dX5_joinedModes_25 : decode cX5_joinedModes 25 = .ok (.aload_n 0, 1) := by decide +kernel
theorem dX5_joinedModes_26 : decode cX5_joinedModes 26 = .ok (.getfield 11, 3) := by decide +kernel
theorem dX5_joinedModes_29 : decode cX5_joinedModes 29 = .ok (.iload_n 2, 1) := by decide +kernel
theorem dX5_joinedModes_30 : decode cX5_joinedModes 30 = .ok (.aaload, 1) := by decide +kernel
theorem dX5_joinedModes_31 : decode cX5_joinedModes 31 = .ok (.getfield 135, 3) := by decide +kernel
theorem dX5_joinedModes_34 : decode cX5_joinedModes 34 = .ok (.iload_n 3, 1) := by decide +kernel
theorem dX5_joinedModes_35 : decode cX5_joinedModes 35 = .ok (.aaload, 1) := by decide +kernel
theorem dX5_joinedModes_36 : decode cX5_joinedModes 36 = .ok (.astore 5, 2) := by decide +kernel
theorem dX5_joinedModes_38 : decode cX5_joinedModes 38 = .ok (.aload 4, 2) := by decide +kernel
theorem dX5_joinedModes_40 : decode cX5_joinedModes 40 = .ok (.getfield 199, 3) := by decide +kernel
theorem dX5_joinedModes_43 : decode cX5_joinedModes 43 = .ok (.aload 4, 2) := by decide +kernel
theorem dX5_joinedModes_45 : decode cX5_joinedModes 45 = .ok (.getfield 179, 3) := by decide +kernel
theorem dX5_joinedModes_48 : decode cX5_joinedModes 48 = .ok (.aload 5, 2) := by decide +kernel
theorem dX5_joinedModes_50 : decode cX5_joinedModes 50 = .ok (.getfield 199, 3) := by decide +kernel
theorem dX5_joinedModes_53 : decode cX5_joinedModes 53 = .ok (.aload 5, 2) := by decide +kernel
theorem dX5_joinedModes_55 : decode cX5_joinedModes 55 = .ok (.getfield 179, 3) := by decide +kernel
theorem dX5_joinedModes_58 : decode cX5_joinedModes 58 = .ok (.invokestatic 206, 3) := by decide +kernel
theorem dX5_joinedModes_61 : decode cX5_joinedModes 61 = .ok (.ireturn, 1) := by decide +kernel
theorem dX5_checkServer_0 : decode cX5_checkServer 0 = .ok (.iload_n 0, 1) := by decide +kernel
theorem dX5_checkServer_1 : decode cX5_checkServer 1 = .ok (.ifCond .lt 9, 3) := by decide +kernel
theorem dX5_checkServer_4 : decode cX5_checkServer 4 = .ok (.iload_n 0, 1) := by decide +kernel
theorem dX5_checkServer_5 : decode cX5_checkServer 5 = .ok (.bipush 6, 2) := by decide +kernel
theorem dX5_checkServer_7 : decode cX5_checkServer 7 = .ok (.if_icmp .lt 13, 3) := by decide +kernel
theorem dX5_checkServer_10 : decode cX5_checkServer 10 = .ok (.new 210, 3) := by decide +kernel
theorem dX5_checkServer_13 : decode cX5_checkServer 13 = .ok (.dup, 1) := by decide +kernel
theorem dX5_checkServer_14 : decode cX5_checkServer 14 = .ok (.ldc 212, 2) := by decide +kernel
theorem dX5_checkServer_16 : decode cX5_checkServer 16 = .ok (.invokespecial 214, 3) := by decide +kernel
theorem dX5_checkServer_19 : decode cX5_checkServer 19 = .ok (.athrow, 1) := by decide +kernel
theorem dX5_checkServer_20 : decode cX5_checkServer 20 = .ok (.return_, 1) := by decide +kernel
theorem dX5_checkChannel_0 : decode cX5_checkChannel 0 = .ok (.iload_n 0, 1) := by decide +kernel
theorem dX5_checkChannel_1 : decode cX5_checkChannel 1 = .ok (.ifCond .lt 8, 3) := by decide +kernel
theorem dX5_checkChannel_4 : decode cX5_checkChannel 4 = .ok (.iload_n 0, 1) := by decide +kernel
theorem dX5_checkChannel_5 : decode cX5_checkChannel 5 = .ok (.iconst 4, 1) := by decide +kernel
theorem dX5_checkChannel_6 : decode cX5_checkChannel 6 = .ok (.if_icmp .lt 13, 3) := by decide +kernel
theorem dX5_checkChannel_9 : decode cX5_checkChannel 9 = .ok (.new 210, 3) := by decide +kernel
theorem dX5_checkChannel_12 : decode cX5_checkChannel 12 = .ok (.dup, 1) := by decide +kernel
theorem dX5_checkChannel_13 : decode cX5_checkChannel 13 = .ok (.ldc 215, 2) := by decide +kernel
theorem dX5_checkChannel_15 : decode cX5_checkChannel 15 = .ok (.invokespecial 214, 3) := by decide +kernel
theorem dX5_checkChannel_18 : decode cX5_checkChannel 18 = .ok (.athrow, 1) := by decide +kernel
theorem dX5_checkChannel_19 : decode cX5_checkChannel 19 = .ok (.return_, 1) := by decide +kernel
theorem dX5_checkUser_0 : decode cX5_checkUser 0 = .ok (.iload_n 1, 1) := by decide +kernel
theorem dX5_checkUser_1 : decode cX5_checkUser 1 = .ok (.ifCond .lt 11, 3) := by decide +kernel
theorem dX5_checkUser_4 : decode cX5_checkUser 4 = .ok (.iload_n 1, 1) := by decide +kernel
theorem dX5_checkUser_5 : decode cX5_checkUser 5 = .ok (.aload_n 0, 1) := by decide +kernel
theorem dX5_checkUser_6 : decode cX5_checkUser 6 = .ok (.getfield 39, 3) := by decide +kernel
theorem dX5_checkUser_9 : decode cX5_checkUser 9 = .ok (.if_icmp .lt 13, 3) := by decide +kernel
theorem dX5_checkUser_12 : decode cX5_checkUser 12 = .ok (.new 210, 3) := by decide +kernel
theorem dX5_checkUser_15 : decode cX5_checkUser 15 = .ok (.dup, 1) := by decide +kernel
theorem dX5_checkUser_16 : decode cX5_checkUser 16 = .ok (.ldc 217, 2) := by decide +kernel
theorem dX5_checkUser_18 : decode cX5_checkUser 18 = .ok (.invokespecial 214, 3) := by decide +kernel
theorem dX5_checkUser_21 : decode cX5_checkUser 21 = .ok (.athrow, 1) := by decide +kernel
theorem dX5_checkUser_22 : decode cX5_checkUser 22 = .ok (.return_, 1) := by decide +kernel
theorem dX5_checkNotGone_0 : decode cX5_checkNotGone 0 = .ok (.aload_n 0, 1) := by decide +kernel
theorem dX5_checkNotGone_1 : decode cX5_checkNotGone 1 = .ok (.iload_n 1, 1) := by decide +kernel
theorem dX5_checkNotGone_2 : decode cX5_checkNotGone 2 = .ok (.invokevirtual 182, 3) := by decide +kernel
theorem dX5_checkNotGone_5 : decode cX5_checkNotGone 5 = .ok (.ifCond .eq 13, 3) := by decide +kernel
theorem dX5_checkNotGone_8 : decode cX5_checkNotGone 8 = .ok (.new 59, 3) := by decide +kernel
theorem dX5_checkNotGone_11 : decode cX5_checkNotGone 11 = .ok (.dup, 1) := by decide +kernel
theorem dX5_checkNotGone_12 : decode cX5_checkNotGone 12 = .ok (.ldc 219, 2) := by decide +kernel
theorem dX5_checkNotGone_14 : decode cX5_checkNotGone 14 = .ok (.invokespecial 63, 3) := by decide +kernel
theorem dX5_checkNotGone_17 : decode cX5_checkNotGone 17 = .ok (.athrow, 1) := by decide +kernel
theorem dX5_checkNotGone_18 : decode cX5_checkNotGone 18 = .ok (.return_, 1) := by decide +kernel
theorem dX5_checkMember_0 : decode cX5_checkMember 0 = .ok (.aload_n 0, 1) := by decide +kernel
theorem dX5_checkMember_1 : decode cX5_checkMember 1 = .ok (.getfield 11, 3) := by decide +kernel
theorem dX5_checkMember_4 : decode cX5_checkMember 4 = .ok (.aload_n 0, 1) := by decide +kernel
theorem dX5_checkMember_5 : decode cX5_checkMember 5 = .ok (.getfield 22, 3) := by decide +kernel
theorem dX5_checkMember_8 : decode cX5_checkMember 8 = .ok (.iload_n 1, 1) := by decide +kernel
theorem dX5_checkMember_9 : decode cX5_checkMember 9 = .ok (.iaload, 1) := by decide +kernel
theorem dX5_checkMember_10 : decode cX5_checkMember 10 = .ok (.aaload, 1) := by decide +kernel
theorem dX5_checkMember_11 : decode cX5_checkMember 11 = .ok (.getfield 135, 3) := by decide +kernel
theorem dX5_checkMember_14 : decode cX5_checkMember 14 = .ok (.iload_n 2, 1) := by decide +kernel
theorem dX5_checkMember_15 : decode cX5_checkMember 15 = .ok (.aaload, 1) := by decide +kernel
theorem dX5_checkMember_16 : decode cX5_checkMember 16 = .ok (.getfield 139, 3) := by decide +kernel
theorem dX5_checkMember_19 : decode cX5_checkMember 19 = .ok (.iload_n 1, 1) := by decide +kernel
theorem dX5_checkMember_20 : decode cX5_checkMember 20 = .ok (.invokestatic 55, 3) := by decide +kernel
theorem dX5_checkMember_23 : decode cX5_checkMember 23 = .ok (.ifCond .ne 13, 3) := by decide +kernel
theorem dX5_checkMember_26 : decode cX5_checkMember 26 = .ok (.new 59, 3) := by decide +kernel
theorem dX5_checkMember_29 : decode cX5_checkMember 29 = .ok (.dup, 1) := by decide +kernel
theorem dX5_checkMember_30 : decode cX5_checkMember 30 = .ok (.ldc 221, 2) := by decide +kernel
theorem dX5_checkMember_32 : decode cX5_checkMember 32 = .ok (.invokespecial 63, 3) := by decide +kernel
theorem dX5_checkMember_35 : decode cX5_checkMember 35 = .ok (.athrow, 1) := by decide +kernel
theorem dX5_checkMember_36 : decode cX5_checkMember 36 = .ok (.return_, 1) := by decide +kernel
theorem dX5_burst_0 : decode cX5_burst 0 = .ok (.aload_n 0, 1) := by decide +kernel
theorem dX5_burst_1 : decode cX5_burst 1 = .ok (.getfield 11, 3) := by decide +kernel
theorem dX5_burst_4 : decode cX5_burst 4 = .ok (.iload_n 1, 1) := by decide +kernel
theorem dX5_burst_5 : decode cX5_burst 5 = .ok (.aaload, 1) := by decide +kernel
theorem dX5_burst_6 : decode cX5_burst 6 = .ok (.astore_n 3, 1) := by decide +kernel
theorem dX5_burst_7 : decode cX5_burst 7 = .ok (.iconst 0, 1) := by decide +kernel
theorem dX5_burst_8 : decode cX5_burst 8 = .ok (.istore 4, 2) := by decide +kernel
theorem dX5_burst_10 : decode cX5_burst 10 = .ok (.iload 4, 2) := by decide +kernel
theorem dX5_burst_12 : decode cX5_burst 12 = .ok (.aload_n 0, 1) := by decide +kernel
theorem dX5_burst_13 : decode cX5_burst 13 = .ok (.getfield 39, 3) := by decide +kernel
theorem dX5_burst_16 : decode cX5_burst 16 = .ok (.if_icmp .ge 37, 3) := by decide +kernel
theorem dX5_burst_19 : decode cX5_burst 19 = .ok (.aload_n 3, 1) := by decide +kernel
theorem dX5_burst_20 : decode cX5_burst 20 = .ok (.iload 4, 2) := by decide +kernel
theorem dX5_burst_22 : decode cX5_burst 22 = .ok (.invokevirtual 223, 3) := by decide +kernel
theorem dX5_burst_25 : decode cX5_burst 25 = .ok (.ifCond .eq 22, 3) := by decide +kernel
theorem dX5_burst_28 : decode cX5_burst 28 = .ok (.aload_n 0, 1) := by decide +kernel
theorem dX5_burst_29 : decode cX5_burst 29 = .ok (.getfield 18, 3) := by decide +kernel
theorem dX5_burst_32 : decode cX5_burst 32 = .ok (.iload_n 1, 1) := by decide +kernel
theorem dX5_burst_33 : decode cX5_burst 33 = .ok (.iload_n 2, 1) := by decide +kernel
theorem dX5_burst_34 : decode cX5_burst 34 = .ok (.aload_n 0, 1) := by decide +kernel
theorem dX5_burst_35 : decode cX5_burst 35 = .ok (.getfield 35, 3) := by decide +kernel
theorem dX5_burst_38 : decode cX5_burst 38 = .ok (.iconst 0, 1) := by decide +kernel
theorem dX5_burst_39 : decode cX5_burst 39 = .ok (.iload 4, 2) := by decide +kernel
theorem dX5_burst_41 : decode cX5_burst 41 = .ok (.invokevirtual 115, 3) := by decide +kernel
theorem dX5_burst_44 : decode cX5_burst 44 = .ok (.invokevirtual 226, 3) := by decide +kernel
theorem dX5_burst_47 : decode cX5_burst 47 = .ok (.iinc 4 1, 3) := by decide +kernel
theorem dX5_burst_50 : decode cX5_burst 50 = .ok (.goto (-40), 3) := by decide +kernel
theorem dX5_burst_53 : decode cX5_burst 53 = .ok (.iconst 0, 1) := by decide +kernel
theorem dX5_burst_54 : decode cX5_burst 54 = .ok (.istore 4, 2) := by decide +kernel
theorem dX5_burst_56 : decode cX5_burst 56 = .ok (.iload 4, 2) := by decide +kernel
theorem dX5_burst_58 : decode cX5_burst 58 = .ok (.iconst 4, 1) := by decide +kernel
theorem dX5_burst_59 : decode cX5_burst 59 = .ok (.if_icmp .ge 52, 3) := by decide +kernel
theorem dX5_burst_62 : decode cX5_burst 62 = .ok (.aload_n 3, 1) := by decide +kernel
theorem dX5_burst_63 : decode cX5_burst 63 = .ok (.getfield 135, 3) := by decide +kernel
theorem dX5_burst_66 : decode cX5_burst 66 = .ok (.iload 4, 2) := by decide +kernel
theorem dX5_burst_68 : decode cX5_burst 68 = .ok (.aaload, 1) := by decide +kernel
theorem dX5_burst_69 : decode cX5_burst 69 = .ok (.astore 5, 2) := by decide +kernel
theorem dX5_burst_71 : decode cX5_burst 71 = .ok (.aload 5, 2) := by decide +kernel
theorem dX5_burst_73 : decode cX5_burst 73 = .ok (.invokevirtual 146, 3) := by decide +kernel
theorem dX5_burst_76 : decode cX5_burst 76 = .ok (.ifCond .eq 29, 3) := by decide +kernel
theorem dX5_burst_79 : decode cX5_burst 79 = .ok (.aload_n 0, 1) := by decide +kernel
theorem dX5_burst_80 : decode cX5_burst 80 = .ok (.getfield 18, 3) := by decide +kernel
theorem dX5_burst_83 : decode cX5_burst 83 = .ok (.iload_n 1, 1) := by decide +kernel
theorem dX5_burst_84 : decode cX5_burst 84 = .ok (.iload_n 2, 1) := by decide +kernel
theorem dX5_burst_85 : decode cX5_burst 85 = .ok (.aload_n 0, 1) := by decide +kernel
theorem dX5_burst_86 : decode cX5_burst 86 = .ok (.getfield 35, 3) := by decide +kernel
theorem dX5_burst_89 : decode cX5_burst 89 = .ok (.iconst 2, 1) := by decide +kernel
theorem dX5_burst_90 : decode cX5_burst 90 = .ok (.iload 4, 2) := by decide +kernel
theorem dX5_burst_92 : decode cX5_burst 92 = .ok (.aload 5, 2) := by decide +kernel
theorem dX5_burst_94 : decode cX5_burst 94 = .ok (.aload 5, 2) := by decide +kernel
theorem dX5_burst_96 : decode cX5_burst 96 = .ok (.getfield 139, 3) := by decide +kernel
theorem dX5_burst_99 : decode cX5_burst 99 = .ok (.invokevirtual 158, 3) := by decide +kernel
theorem dX5_burst_102 : decode cX5_burst 102 = .ok (.invokevirtual 226, 3) := by decide +kernel
theorem dX5_burst_105 : decode cX5_burst 105 = .ok (.iinc 4 1, 3) := by decide +kernel
theorem dX5_burst_108 : decode cX5_burst 108 = .ok (.goto (-52), 3) := by decide +kernel
theorem dX5_burst_111 : decode cX5_burst 111 = .ok (.return_, 1) := by decide +kernel
theorem dX5_forgetUnreached_0 : decode cX5_forgetUnreached 0 = .ok (.aload_n 0, 1) := by decide +kernel
theorem dX5_forgetUnreached_1 : decode cX5_forgetUnreached 1 = .ok (.getfield 11, 3) := by decide +kernel
theorem dX5_forgetUnreached_4 : decode cX5_forgetUnreached 4 = .ok (.iload_n 1, 1) := by decide +kernel
theorem dX5_forgetUnreached_5 : decode cX5_forgetUnreached 5 = .ok (.aaload, 1) := by decide +kernel
theorem dX5_forgetUnreached_6 : decode cX5_forgetUnreached 6 = .ok (.astore_n 2, 1) := by decide +kernel
theorem dX5_forgetUnreached_7 : decode cX5_forgetUnreached 7 = .ok (.aload_n 0, 1) := by decide +kernel
theorem dX5_forgetUnreached_8 : decode cX5_forgetUnreached 8 = .ok (.getfield 18, 3) := by decide +kernel
theorem dX5_forgetUnreached_11 : decode cX5_forgetUnreached 11 = .ok (.iload_n 1, 1) := by decide +kernel
theorem dX5_forgetUnreached_12 : decode cX5_forgetUnreached 12 = .ok (.invokevirtual 51, 3) := by decide +kernel
theorem dX5_forgetUnreached_15 : decode cX5_forgetUnreached 15 = .ok (.istore_n 3, 1) := by decide +kernel
theorem dX5_forgetUnreached_16 : decode cX5_forgetUnreached 16 = .ok (.iconst 0, 1) := by decide +kernel
theorem dX5_forgetUnreached_17 : decode cX5_forgetUnreached 17 = .ok (.istore 4, 2) := by decide +kernel
theorem dX5_forgetUnreached_19 : decode cX5_forgetUnreached 19 = .ok (.iload 4, 2) := by decide +kernel
theorem dX5_forgetUnreached_21 : decode cX5_forgetUnreached 21 = .ok (.aload_n 0, 1) := by decide +kernel
theorem dX5_forgetUnreached_22 : decode cX5_forgetUnreached 22 = .ok (.getfield 39, 3) := by decide +kernel
theorem dX5_forgetUnreached_25 : decode cX5_forgetUnreached 25 = .ok (.if_icmp .ge 38, 3) := by decide +kernel
theorem dX5_forgetUnreached_28 : decode cX5_forgetUnreached 28 = .ok (.aload_n 2, 1) := by decide +kernel
theorem dX5_forgetUnreached_29 : decode cX5_forgetUnreached 29 = .ok (.iload 4, 2) := by decide +kernel
theorem dX5_forgetUnreached_31 : decode cX5_forgetUnreached 31 = .ok (.invokevirtual 223, 3) := by decide +kernel
theorem dX5_forgetUnreached_34 : decode cX5_forgetUnreached 34 = .ok (.ifCond .eq 23, 3) := by decide +kernel
theorem dX5_forgetUnreached_37 : decode cX5_forgetUnreached 37 = .ok (.iload_n 3, 1) := by decide +kernel
theorem dX5_forgetUnreached_38 : decode cX5_forgetUnreached 38 = .ok (.aload_n 0, 1) := by decide +kernel
theorem dX5_forgetUnreached_39 : decode cX5_forgetUnreached 39 = .ok (.getfield 22, 3) := by decide +kernel
theorem dX5_forgetUnreached_42 : decode cX5_forgetUnreached 42 = .ok (.iload 4, 2) := by decide +kernel
theorem dX5_forgetUnreached_44 : decode cX5_forgetUnreached 44 = .ok (.iaload, 1) := by decide +kernel
theorem dX5_forgetUnreached_45 : decode cX5_forgetUnreached 45 = .ok (.invokestatic 55, 3) := by decide +kernel
theorem dX5_forgetUnreached_48 : decode cX5_forgetUnreached 48 = .ok (.ifCond .ne 9, 3) := by decide +kernel
theorem dX5_forgetUnreached_51 : decode cX5_forgetUnreached 51 = .ok (.aload_n 2, 1) := by decide +kernel
theorem dX5_forgetUnreached_52 : decode cX5_forgetUnreached 52 = .ok (.iload 4, 2) := by decide +kernel
theorem dX5_forgetUnreached_54 : decode cX5_forgetUnreached 54 = .ok (.invokevirtual 129, 3) := by decide +kernel
theorem dX5_forgetUnreached_57 : decode cX5_forgetUnreached 57 = .ok (.iinc 4 1, 3) := by decide +kernel
theorem dX5_forgetUnreached_60 : decode cX5_forgetUnreached 60 = .ok (.goto (-41), 3) := by decide +kernel
theorem dX5_forgetUnreached_63 : decode cX5_forgetUnreached 63 = .ok (.return_, 1) := by decide +kernel
theorem dX5_deliverRound_0 : decode cX5_deliverRound 0 = .ok (.iconst 0, 1) := by decide +kernel
theorem dX5_deliverRound_1 : decode cX5_deliverRound 1 = .ok (.istore_n 1, 1) := by decide +kernel
theorem dX5_deliverRound_2 : decode cX5_deliverRound 2 = .ok (.iconst 0, 1) := by decide +kernel
theorem dX5_deliverRound_3 : decode cX5_deliverRound 3 = .ok (.istore_n 2, 1) := by decide +kernel
theorem dX5_deliverRound_4 : decode cX5_deliverRound 4 = .ok (.iload_n 2, 1) := by decide +kernel
theorem dX5_deliverRound_5 : decode cX5_deliverRound 5 = .ok (.bipush 6, 2) := by decide +kernel
theorem dX5_deliverRound_7 : decode cX5_deliverRound 7 = .ok (.if_icmp .ge 35, 3) := by decide +kernel
theorem dX5_deliverRound_10 : decode cX5_deliverRound 10 = .ok (.iconst 0, 1) := by decide +kernel
theorem dX5_deliverRound_11 : decode cX5_deliverRound 11 = .ok (.istore_n 3, 1) := by decide +kernel
theorem dX5_deliverRound_12 : decode cX5_deliverRound 12 = .ok (.iload_n 3, 1) := by decide +kernel
theorem dX5_deliverRound_13 : decode cX5_deliverRound 13 = .ok (.bipush 6, 2) := by decide +kernel
theorem dX5_deliverRound_15 : decode cX5_deliverRound 15 = .ok (.if_icmp .ge 21, 3) := by decide +kernel
theorem dX5_deliverRound_18 : decode cX5_deliverRound 18 = .ok (.aload_n 0, 1) := by decide +kernel
theorem dX5_deliverRound_19 : decode cX5_deliverRound 19 = .ok (.iload_n 2, 1) := by decide +kernel
theorem dX5_deliverRound_20 : decode cX5_deliverRound 20 = .ok (.iload_n 3, 1) := by decide +kernel
theorem dX5_deliverRound_21 : decode cX5_deliverRound 21 = .ok (.invokevirtual 87, 3) := by decide +kernel
theorem dX5_deliverRound_24 : decode cX5_deliverRound 24 = .ok (.ifCond .eq 6, 3) := by decide +kernel
theorem dX5_deliverRound_27 : decode cX5_deliverRound 27 = .ok (.iinc 1 1, 3) := by decide +kernel
theorem dX5_deliverRound_30 : decode cX5_deliverRound 30 = .ok (.iinc 3 1, 3) := by decide +kernel
theorem dX5_deliverRound_33 : decode cX5_deliverRound 33 = .ok (.goto (-21), 3) := by decide +kernel
theorem dX5_deliverRound_36 : decode cX5_deliverRound 36 = .ok (.iinc 2 1, 3) := by decide +kernel
theorem dX5_deliverRound_39 : decode cX5_deliverRound 39 = .ok (.goto (-35), 3) := by decide +kernel
theorem dX5_deliverRound_42 : decode cX5_deliverRound 42 = .ok (.iload_n 1, 1) := by decide +kernel
theorem dX5_deliverRound_43 : decode cX5_deliverRound 43 = .ok (.ireturn, 1) := by decide +kernel
theorem dX5_deliverFirst_0 : decode cX5_deliverFirst 0 = .ok (.aload_n 0, 1) := by decide +kernel
theorem dX5_deliverFirst_1 : decode cX5_deliverFirst 1 = .ok (.getfield 18, 3) := by decide +kernel
theorem dX5_deliverFirst_4 : decode cX5_deliverFirst 4 = .ok (.iload_n 1, 1) := by decide +kernel
theorem dX5_deliverFirst_5 : decode cX5_deliverFirst 5 = .ok (.iload_n 2, 1) := by decide +kernel
theorem dX5_deliverFirst_6 : decode cX5_deliverFirst 6 = .ok (.invokevirtual 229, 3) := by decide +kernel
theorem dX5_deliverFirst_9 : decode cX5_deliverFirst 9 = .ok (.astore_n 3, 1) := by decide +kernel
theorem dX5_deliverFirst_10 : decode cX5_deliverFirst 10 = .ok (.aload_n 3, 1) := by decide +kernel
theorem dX5_deliverFirst_11 : decode cX5_deliverFirst 11 = .ok (.ifnonnull 5, 3) := by decide +kernel
theorem dX5_deliverFirst_14 : decode cX5_deliverFirst 14 = .ok (.iconst 0, 1) := by decide +kernel
theorem dX5_deliverFirst_15 : decode cX5_deliverFirst 15 = .ok (.ireturn, 1) := by decide +kernel
theorem dX5_deliverFirst_16 : decode cX5_deliverFirst 16 = .ok (.aload_n 3, 1) := by decide +kernel
theorem dX5_deliverFirst_17 : decode cX5_deliverFirst 17 = .ok (.getfield 232, 3) := by decide +kernel
theorem dX5_deliverFirst_20 : decode cX5_deliverFirst 20 = .ok (.tableswitch 96 0 3 #[32, 42, 52, 62], 32) := by decide +kernel
theorem dX5_deliverFirst_52 : decode cX5_deliverFirst 52 = .ok (.aload_n 0, 1) := by decide +kernel
theorem dX5_deliverFirst_53 : decode cX5_deliverFirst 53 = .ok (.aload_n 3, 1) := by decide +kernel
theorem dX5_deliverFirst_54 : decode cX5_deliverFirst 54 = .ok (.iload_n 1, 1) := by decide +kernel
theorem dX5_deliverFirst_55 : decode cX5_deliverFirst 55 = .ok (.iload_n 2, 1) := by decide +kernel
theorem dX5_deliverFirst_56 : decode cX5_deliverFirst 56 = .ok (.invokevirtual 235, 3) := by decide +kernel
theorem dX5_deliverFirst_59 : decode cX5_deliverFirst 59 = .ok (.goto 64, 3) := by decide +kernel
theorem dX5_deliverFirst_62 : decode cX5_deliverFirst 62 = .ok (.aload_n 0, 1) := by decide +kernel
theorem dX5_deliverFirst_63 : decode cX5_deliverFirst 63 = .ok (.aload_n 3, 1) := by decide +kernel
theorem dX5_deliverFirst_64 : decode cX5_deliverFirst 64 = .ok (.iload_n 1, 1) := by decide +kernel
theorem dX5_deliverFirst_65 : decode cX5_deliverFirst 65 = .ok (.iload_n 2, 1) := by decide +kernel
theorem dX5_deliverFirst_66 : decode cX5_deliverFirst 66 = .ok (.invokevirtual 239, 3) := by decide +kernel
theorem dX5_deliverFirst_69 : decode cX5_deliverFirst 69 = .ok (.goto 54, 3) := by decide +kernel
theorem dX5_deliverFirst_72 : decode cX5_deliverFirst 72 = .ok (.aload_n 0, 1) := by decide +kernel
theorem dX5_deliverFirst_73 : decode cX5_deliverFirst 73 = .ok (.aload_n 3, 1) := by decide +kernel
theorem dX5_deliverFirst_74 : decode cX5_deliverFirst 74 = .ok (.iload_n 1, 1) := by decide +kernel
theorem dX5_deliverFirst_75 : decode cX5_deliverFirst 75 = .ok (.iload_n 2, 1) := by decide +kernel
theorem dX5_deliverFirst_76 : decode cX5_deliverFirst 76 = .ok (.invokevirtual 242, 3) := by decide +kernel
theorem dX5_deliverFirst_79 : decode cX5_deliverFirst 79 = .ok (.goto 44, 3) := by decide +kernel
theorem dX5_deliverFirst_82 : decode cX5_deliverFirst 82 = .ok (.aload_n 0, 1) := by decide +kernel
theorem dX5_deliverFirst_83 : decode cX5_deliverFirst 83 = .ok (.getfield 11, 3) := by decide +kernel
theorem dX5_deliverFirst_86 : decode cX5_deliverFirst 86 = .ok (.iload_n 2, 1) := by decide +kernel
theorem dX5_deliverFirst_87 : decode cX5_deliverFirst 87 = .ok (.aaload, 1) := by decide +kernel
theorem dX5_deliverFirst_88 : decode cX5_deliverFirst 88 = .ok (.getfield 135, 3) := by decide +kernel
theorem dX5_deliverFirst_91 : decode cX5_deliverFirst 91 = .ok (.aload_n 3, 1) := by decide +kernel
theorem dX5_deliverFirst_92 : decode cX5_deliverFirst 92 = .ok (.getfield 245, 3) := by decide +kernel
theorem dX5_deliverFirst_95 : decode cX5_deliverFirst 95 = .ok (.aaload, 1) := by decide +kernel
theorem dX5_deliverFirst_96 : decode cX5_deliverFirst 96 = .ok (.aload_n 3, 1) := by decide +kernel
theorem dX5_deliverFirst_97 : decode cX5_deliverFirst 97 = .ok (.getfield 248, 3) := by decide +kernel
theorem dX5_deliverFirst_100 : decode cX5_deliverFirst 100 = .ok (.invokevirtual 170, 3) := by decide +kernel
theorem dX5_deliverFirst_103 : decode cX5_deliverFirst 103 = .ok (.aload_n 0, 1) := by decide +kernel
theorem dX5_deliverFirst_104 : decode cX5_deliverFirst 104 = .ok (.getfield 18, 3) := by decide +kernel
theorem dX5_deliverFirst_107 : decode cX5_deliverFirst 107 = .ok (.iload_n 2, 1) := by decide +kernel
theorem dX5_deliverFirst_108 : decode cX5_deliverFirst 108 = .ok (.iload_n 1, 1) := by decide +kernel
theorem dX5_deliverFirst_109 : decode cX5_deliverFirst 109 = .ok (.aload_n 3, 1) := by decide +kernel
theorem dX5_deliverFirst_110 : decode cX5_deliverFirst 110 = .ok (.invokevirtual 119, 3) := by decide +kernel
theorem dX5_deliverFirst_113 : decode cX5_deliverFirst 113 = .ok (.goto 10, 3) := by decide +kernel
theorem dX5_deliverFirst_116 : decode cX5_deliverFirst 116 = .ok (.aload_n 0, 1) := by decide +kernel
theorem dX5_deliverFirst_117 : decode cX5_deliverFirst 117 = .ok (.aload_n 3, 1) := by decide +kernel
theorem dX5_deliverFirst_118 : decode cX5_deliverFirst 118 = .ok (.iload_n 1, 1) := by decide +kernel
theorem dX5_deliverFirst_119 : decode cX5_deliverFirst 119 = .ok (.iload_n 2, 1) := by decide +kernel
theorem dX5_deliverFirst_120 : decode cX5_deliverFirst 120 = .ok (.invokevirtual 251, 3) := by decide +kernel
theorem dX5_deliverFirst_123 : decode cX5_deliverFirst 123 = .ok (.aload_n 0, 1) := by decide +kernel
theorem dX5_deliverFirst_124 : decode cX5_deliverFirst 124 = .ok (.getfield 18, 3) := by decide +kernel
theorem dX5_deliverFirst_127 : decode cX5_deliverFirst 127 = .ok (.aload_n 3, 1) := by decide +kernel
theorem dX5_deliverFirst_128 : decode cX5_deliverFirst 128 = .ok (.invokevirtual 254, 3) := by decide +kernel
theorem dX5_deliverFirst_131 : decode cX5_deliverFirst 131 = .ok (.iconst 1, 1) := by decide +kernel
theorem dX5_deliverFirst_132 : decode cX5_deliverFirst 132 = .ok (.ireturn, 1) := by decide +kernel
theorem dX5_receiveUser_0 : decode cX5_receiveUser 0 = .ok (.aload_n 1, 1) := by decide +kernel
theorem dX5_receiveUser_1 : decode cX5_receiveUser 1 = .ok (.getfield 248, 3) := by decide +kernel
theorem dX5_receiveUser_4 : decode cX5_receiveUser 4 = .ok (.istore 4, 2) := by decide +kernel
theorem dX5_receiveUser_6 : decode cX5_receiveUser 6 = .ok (.aload_n 0, 1) := by decide +kernel
theorem dX5_receiveUser_7 : decode cX5_receiveUser 7 = .ok (.getfield 18, 3) := by decide +kernel
theorem dX5_receiveUser_10 : decode cX5_receiveUser 10 = .ok (.iload_n 3, 1) := by decide +kernel
theorem dX5_receiveUser_11 : decode cX5_receiveUser 11 = .ok (.invokevirtual 51, 3) := by decide +kernel
theorem dX5_receiveUser_14 : decode cX5_receiveUser 14 = .ok (.aload_n 0, 1) := by decide +kernel
theorem dX5_receiveUser_15 : decode cX5_receiveUser 15 = .ok (.getfield 22, 3) := by decide +kernel
theorem dX5_receiveUser_18 : decode cX5_receiveUser 18 = .ok (.iload 4, 2) := by decide +kernel
theorem dX5_receiveUser_20 : decode cX5_receiveUser 20 = .ok (.iaload, 1) := by decide +kernel
theorem dX5_receiveUser_21 : decode cX5_receiveUser 21 = .ok (.invokestatic 55, 3) := by decide +kernel
theorem dX5_receiveUser_24 : decode cX5_receiveUser 24 = .ok (.ifCond .ne 4, 3) := by decide +kernel
theorem dX5_receiveUser_27 : decode cX5_receiveUser 27 = .ok (.return_, 1) := by decide +kernel
theorem dX5_receiveUser_28 : decode cX5_receiveUser 28 = .ok (.aload_n 0, 1) := by decide +kernel
theorem dX5_receiveUser_29 : decode cX5_receiveUser 29 = .ok (.getfield 11, 3) := by decide +kernel
theorem dX5_receiveUser_32 : decode cX5_receiveUser 32 = .ok (.iload_n 3, 1) := by decide +kernel
theorem dX5_receiveUser_33 : decode cX5_receiveUser 33 = .ok (.aaload, 1) := by decide +kernel
theorem dX5_receiveUser_34 : decode cX5_receiveUser 34 = .ok (.astore 5, 2) := by decide +kernel
theorem dX5_receiveUser_36 : decode cX5_receiveUser 36 = .ok (.aload_n 0, 1) := by decide +kernel
theorem dX5_receiveUser_37 : decode cX5_receiveUser 37 = .ok (.aload 5, 2) := by decide +kernel
theorem dX5_receiveUser_39 : decode cX5_receiveUser 39 = .ok (.aload_n 0, 1) := by decide +kernel
theorem dX5_receiveUser_40 : decode cX5_receiveUser 40 = .ok (.getfield 26, 3) := by decide +kernel
theorem dX5_receiveUser_43 : decode cX5_receiveUser 43 = .ok (.iload 4, 2) := by decide +kernel
theorem dX5_receiveUser_45 : decode cX5_receiveUser 45 = .ok (.iaload, 1) := by decide +kernel
theorem dX5_receiveUser_46 : decode cX5_receiveUser 46 = .ok (.iload 4, 2) := by decide +kernel
theorem dX5_receiveUser_48 : decode cX5_receiveUser 48 = .ok (.invokevirtual 106, 3) := by decide +kernel
theorem dX5_receiveUser_51 : decode cX5_receiveUser 51 = .ok (.istore 6, 2) := by decide +kernel
theorem dX5_receiveUser_53 : decode cX5_receiveUser 53 = .ok (.iload 6, 2) := by decide +kernel
theorem dX5_receiveUser_55 : decode cX5_receiveUser 55 = .ok (.iconst (-1), 1) := by decide +kernel
theorem dX5_receiveUser_56 : decode cX5_receiveUser 56 = .ok (.if_icmp .eq 40, 3) := by decide +kernel
theorem dX5_receiveUser_59 : decode cX5_receiveUser 59 = .ok (.aload_n 0, 1) := by decide +kernel
theorem dX5_receiveUser_60 : decode cX5_receiveUser 60 = .ok (.getfield 29, 3) := by decide +kernel
theorem dX5_receiveUser_63 : decode cX5_receiveUser 63 = .ok (.iload 6, 2) := by decide +kernel
theorem dX5_receiveUser_65 : decode cX5_receiveUser 65 = .ok (.iaload, 1) := by decide +kernel
theorem dX5_receiveUser_66 : decode cX5_receiveUser 66 = .ok (.aload_n 0, 1) := by decide +kernel
theorem dX5_receiveUser_67 : decode cX5_receiveUser 67 = .ok (.getfield 29, 3) := by decide +kernel
theorem dX5_receiveUser_70 : decode cX5_receiveUser 70 = .ok (.iload 4, 2) := by decide +kernel
theorem dX5_receiveUser_72 : decode cX5_receiveUser 72 = .ok (.iaload, 1) := by decide +kernel
theorem dX5_receiveUser_73 : decode cX5_receiveUser 73 = .ok (.if_icmp .ge 23, 3) := by decide +kernel
theorem dX5_receiveUser_76 : decode cX5_receiveUser 76 = .ok (.aload_n 0, 1) := by decide +kernel
theorem dX5_receiveUser_77 : decode cX5_receiveUser 77 = .ok (.getfield 18, 3) := by decide +kernel
theorem dX5_receiveUser_80 : decode cX5_receiveUser 80 = .ok (.iload_n 3, 1) := by decide +kernel
theorem dX5_receiveUser_81 : decode cX5_receiveUser 81 = .ok (.iload_n 2, 1) := by decide +kernel
theorem dX5_receiveUser_82 : decode cX5_receiveUser 82 = .ok (.aload_n 0, 1) := by decide +kernel
theorem dX5_receiveUser_83 : decode cX5_receiveUser 83 = .ok (.getfield 35, 3) := by decide +kernel
theorem dX5_receiveUser_86 : decode cX5_receiveUser 86 = .ok (.iconst 1, 1) := by decide +kernel
theorem dX5_receiveUser_87 : decode cX5_receiveUser 87 = .ok (.iload 4, 2) := by decide +kernel
theorem dX5_receiveUser_89 : decode cX5_receiveUser 89 = .ok (.invokevirtual 115, 3) := by decide +kernel
theorem dX5_receiveUser_92 : decode cX5_receiveUser 92 = .ok (.invokevirtual 226, 3) := by decide +kernel
theorem dX5_receiveUser_95 : decode cX5_receiveUser 95 = .ok (.return_, 1) := by decide +kernel
theorem dX5_receiveUser_96 : decode cX5_receiveUser 96 = .ok (.iload 6, 2) := by decide +kernel
theorem dX5_receiveUser_98 : decode cX5_receiveUser 98 = .ok (.iconst (-1), 1) := by decide +kernel
theorem dX5_receiveUser_99 : decode cX5_receiveUser 99 = .ok (.if_icmp .eq 29, 3) := by decide +kernel
theorem dX5_receiveUser_102 : decode cX5_receiveUser 102 = .ok (.aload 5, 2) := by decide +kernel
theorem dX5_receiveUser_104 : decode cX5_receiveUser 104 = .ok (.iload 6, 2) := by decide +kernel
theorem dX5_receiveUser_106 : decode cX5_receiveUser 106 = .ok (.invokevirtual 129, 3) := by decide +kernel
theorem dX5_receiveUser_109 : decode cX5_receiveUser 109 = .ok (.aload_n 0, 1) := by decide +kernel
theorem dX5_receiveUser_110 : decode cX5_receiveUser 110 = .ok (.getfield 18, 3) := by decide +kernel
theorem dX5_receiveUser_113 : decode cX5_receiveUser 113 = .ok (.iload_n 3, 1) := by decide +kernel
theorem dX5_receiveUser_114 : decode cX5_receiveUser 114 = .ok (.iconst (-1), 1) := by decide +kernel
theorem dX5_receiveUser_115 : decode cX5_receiveUser 115 = .ok (.aload_n 0, 1) := by decide +kernel
theorem dX5_receiveUser_116 : decode cX5_receiveUser 116 = .ok (.getfield 35, 3) := by decide +kernel
theorem dX5_receiveUser_119 : decode cX5_receiveUser 119 = .ok (.iconst 1, 1) := by decide +kernel
theorem dX5_receiveUser_120 : decode cX5_receiveUser 120 = .ok (.iload 6, 2) := by decide +kernel
theorem dX5_receiveUser_122 : decode cX5_receiveUser 122 = .ok (.invokevirtual 115, 3) := by decide +kernel
theorem dX5_receiveUser_125 : decode cX5_receiveUser 125 = .ok (.invokevirtual 119, 3) := by decide +kernel
theorem dX5_receiveUser_128 : decode cX5_receiveUser 128 = .ok (.aload 5, 2) := by decide +kernel
theorem dX5_receiveUser_130 : decode cX5_receiveUser 130 = .ok (.iload 4, 2) := by decide +kernel
theorem dX5_receiveUser_132 : decode cX5_receiveUser 132 = .ok (.invokevirtual 112, 3) := by decide +kernel
theorem dX5_receiveUser_135 : decode cX5_receiveUser 135 = .ok (.aload_n 0, 1) := by decide +kernel
theorem dX5_receiveUser_136 : decode cX5_receiveUser 136 = .ok (.getfield 18, 3) := by decide +kernel
theorem dX5_receiveUser_139 : decode cX5_receiveUser 139 = .ok (.iload_n 3, 1) := by decide +kernel
theorem dX5_receiveUser_140 : decode cX5_receiveUser 140 = .ok (.iload_n 2, 1) := by decide +kernel
theorem dX5_receiveUser_141 : decode cX5_receiveUser 141 = .ok (.aload_n 1, 1) := by decide +kernel
theorem dX5_receiveUser_142 : decode cX5_receiveUser 142 = .ok (.invokevirtual 119, 3) := by decide +kernel
theorem dX5_receiveUser_145 : decode cX5_receiveUser 145 = .ok (.return_, 1) := by decide +kernel
theorem dX5_receiveQuit_0 : decode cX5_receiveQuit 0 = .ok (.aload_n 0, 1) := by decide +kernel
theorem dX5_receiveQuit_1 : decode cX5_receiveQuit 1 = .ok (.getfield 11, 3) := by decide +kernel
theorem dX5_receiveQuit_4 : decode cX5_receiveQuit 4 = .ok (.iload_n 3, 1) := by decide +kernel
theorem dX5_receiveQuit_5 : decode cX5_receiveQuit 5 = .ok (.aaload, 1) := by decide +kernel
theorem dX5_receiveQuit_6 : decode cX5_receiveQuit 6 = .ok (.astore 4, 2) := by decide +kernel
theorem dX5_receiveQuit_8 : decode cX5_receiveQuit 8 = .ok (.aload 4, 2) := by decide +kernel
theorem dX5_receiveQuit_10 : decode cX5_receiveQuit 10 = .ok (.aload_n 1, 1) := by decide +kernel
theorem dX5_receiveQuit_11 : decode cX5_receiveQuit 11 = .ok (.getfield 248, 3) := by decide +kernel
theorem dX5_receiveQuit_14 : decode cX5_receiveQuit 14 = .ok (.invokevirtual 223, 3) := by decide +kernel
theorem dX5_receiveQuit_17 : decode cX5_receiveQuit 17 = .ok (.ifCond .eq 22, 3) := by decide +kernel
theorem dX5_receiveQuit_20 : decode cX5_receiveQuit 20 = .ok (.aload 4, 2) := by decide +kernel
theorem dX5_receiveQuit_22 : decode cX5_receiveQuit 22 = .ok (.aload_n 1, 1) := by decide +kernel
theorem dX5_receiveQuit_23 : decode cX5_receiveQuit 23 = .ok (.getfield 248, 3) := by decide +kernel
theorem dX5_receiveQuit_26 : decode cX5_receiveQuit 26 = .ok (.invokevirtual 129, 3) := by decide +kernel
theorem dX5_receiveQuit_29 : decode cX5_receiveQuit 29 = .ok (.aload_n 0, 1) := by decide +kernel
theorem dX5_receiveQuit_30 : decode cX5_receiveQuit 30 = .ok (.getfield 18, 3) := by decide +kernel
theorem dX5_receiveQuit_33 : decode cX5_receiveQuit 33 = .ok (.iload_n 3, 1) := by decide +kernel
theorem dX5_receiveQuit_34 : decode cX5_receiveQuit 34 = .ok (.iload_n 2, 1) := by decide +kernel
theorem dX5_receiveQuit_35 : decode cX5_receiveQuit 35 = .ok (.aload_n 1, 1) := by decide +kernel
theorem dX5_receiveQuit_36 : decode cX5_receiveQuit 36 = .ok (.invokevirtual 119, 3) := by decide +kernel
theorem dX5_receiveQuit_39 : decode cX5_receiveQuit 39 = .ok (.return_, 1) := by decide +kernel
theorem dX5_receiveChannel_0 : decode cX5_receiveChannel 0 = .ok (.aload_n 0, 1) := by decide +kernel
theorem dX5_receiveChannel_1 : decode cX5_receiveChannel 1 = .ok (.getfield 11, 3) := by decide +kernel
theorem dX5_receiveChannel_4 : decode cX5_receiveChannel 4 = .ok (.iload_n 3, 1) := by decide +kernel
theorem dX5_receiveChannel_5 : decode cX5_receiveChannel 5 = .ok (.aaload, 1) := by decide +kernel
theorem dX5_receiveChannel_6 : decode cX5_receiveChannel 6 = .ok (.astore 4, 2) := by decide +kernel
theorem dX5_receiveChannel_8 : decode cX5_receiveChannel 8 = .ok (.aload_n 1, 1) := by decide +kernel
theorem dX5_receiveChannel_9 : decode cX5_receiveChannel 9 = .ok (.getfield 258, 3) := by decide +kernel
theorem dX5_receiveChannel_12 : decode cX5_receiveChannel 12 = .ok (.aload 4, 2) := by decide +kernel
theorem dX5_receiveChannel_14 : decode cX5_receiveChannel 14 = .ok (.getfield 196, 3) := by decide +kernel
theorem dX5_receiveChannel_17 : decode cX5_receiveChannel 17 = .ok (.iand, 1) := by decide +kernel
theorem dX5_receiveChannel_18 : decode cX5_receiveChannel 18 = .ok (.istore 5, 2) := by decide +kernel
theorem dX5_receiveChannel_20 : decode cX5_receiveChannel 20 = .ok (.iload 5, 2) := by decide +kernel
theorem dX5_receiveChannel_22 : decode cX5_receiveChannel 22 = .ok (.ifCond .eq 19, 3) := by decide +kernel
theorem dX5_receiveChannel_25 : decode cX5_receiveChannel 25 = .ok (.aload 4, 2) := by decide +kernel
theorem dX5_receiveChannel_27 : decode cX5_receiveChannel 27 = .ok (.getfield 135, 3) := by decide +kernel
theorem dX5_receiveChannel_30 : decode cX5_receiveChannel 30 = .ok (.aload_n 1, 1) := by decide +kernel
theorem dX5_receiveChannel_31 : decode cX5_receiveChannel 31 = .ok (.getfield 245, 3) := by decide +kernel
theorem dX5_receiveChannel_34 : decode cX5_receiveChannel 34 = .ok (.aaload, 1) := by decide +kernel
theorem dX5_receiveChannel_35 : decode cX5_receiveChannel 35 = .ok (.aload_n 1, 1) := by decide +kernel
theorem dX5_receiveChannel_36 : decode cX5_receiveChannel 36 = .ok (.iload 5, 2) := by decide +kernel
theorem dX5_receiveChannel_38 : decode cX5_receiveChannel 38 = .ok (.invokevirtual 259, 3) := by decide +kernel
theorem dX5_receiveChannel_41 : decode cX5_receiveChannel 41 = .ok (.aload_n 0, 1) := by decide +kernel
theorem dX5_receiveChannel_42 : decode cX5_receiveChannel 42 = .ok (.getfield 18, 3) := by decide +kernel
theorem dX5_receiveChannel_45 : decode cX5_receiveChannel 45 = .ok (.iload_n 3, 1) := by decide +kernel
theorem dX5_receiveChannel_46 : decode cX5_receiveChannel 46 = .ok (.iload_n 2, 1) := by decide +kernel
theorem dX5_receiveChannel_47 : decode cX5_receiveChannel 47 = .ok (.aload_n 1, 1) := by decide +kernel
theorem dX5_receiveChannel_48 : decode cX5_receiveChannel 48 = .ok (.invokevirtual 119, 3) := by decide +kernel
theorem dX5_receiveChannel_51 : decode cX5_receiveChannel 51 = .ok (.return_, 1) := by decide +kernel
theorem dX5_receiveModes_0 : decode cX5_receiveModes 0 = .ok (.aload_n 0, 1) := by decide +kernel
theorem dX5_receiveModes_1 : decode cX5_receiveModes 1 = .ok (.getfield 11, 3) := by decide +kernel
theorem dX5_receiveModes_4 : decode cX5_receiveModes 4 = .ok (.iload_n 3, 1) := by decide +kernel
theorem dX5_receiveModes_5 : decode cX5_receiveModes 5 = .ok (.aaload, 1) := by decide +kernel
theorem dX5_receiveModes_6 : decode cX5_receiveModes 6 = .ok (.getfield 135, 3) := by decide +kernel
theorem dX5_receiveModes_9 : decode cX5_receiveModes 9 = .ok (.aload_n 1, 1) := by decide +kernel
theorem dX5_receiveModes_10 : decode cX5_receiveModes 10 = .ok (.getfield 245, 3) := by decide +kernel
theorem dX5_receiveModes_13 : decode cX5_receiveModes 13 = .ok (.aaload, 1) := by decide +kernel
theorem dX5_receiveModes_14 : decode cX5_receiveModes 14 = .ok (.astore 4, 2) := by decide +kernel
theorem dX5_receiveModes_16 : decode cX5_receiveModes 16 = .ok (.aload 4, 2) := by decide +kernel
theorem dX5_receiveModes_18 : decode cX5_receiveModes 18 = .ok (.invokevirtual 146, 3) := by decide +kernel
theorem dX5_receiveModes_21 : decode cX5_receiveModes 21 = .ok (.ifCond .eq 33, 3) := by decide +kernel
theorem dX5_receiveModes_24 : decode cX5_receiveModes 24 = .ok (.aload 4, 2) := by decide +kernel
theorem dX5_receiveModes_26 : decode cX5_receiveModes 26 = .ok (.getfield 199, 3) := by decide +kernel
theorem dX5_receiveModes_29 : decode cX5_receiveModes 29 = .ok (.aload_n 1, 1) := by decide +kernel
theorem dX5_receiveModes_30 : decode cX5_receiveModes 30 = .ok (.getfield 263, 3) := by decide +kernel
theorem dX5_receiveModes_33 : decode cX5_receiveModes 33 = .ok (.if_icmp .ne 21, 3) := by decide +kernel
theorem dX5_receiveModes_36 : decode cX5_receiveModes 36 = .ok (.aload 4, 2) := by decide +kernel
theorem dX5_receiveModes_38 : decode cX5_receiveModes 38 = .ok (.aload_n 1, 1) := by decide +kernel
theorem dX5_receiveModes_39 : decode cX5_receiveModes 39 = .ok (.getfield 264, 3) := by decide +kernel
theorem dX5_receiveModes_42 : decode cX5_receiveModes 42 = .ok (.putfield 179, 3) := by decide +kernel
theorem dX5_receiveModes_45 : decode cX5_receiveModes 45 = .ok (.aload 4, 2) := by decide +kernel
theorem dX5_receiveModes_47 : decode cX5_receiveModes 47 = .ok (.aload_n 1, 1) := by decide +kernel
theorem dX5_receiveModes_48 : decode cX5_receiveModes 48 = .ok (.getfield 265, 3) := by decide +kernel
theorem dX5_receiveModes_51 : decode cX5_receiveModes 51 = .ok (.putfield 150, 3) := by decide +kernel
theorem dX5_receiveModes_54 : decode cX5_receiveModes 54 = .ok (.aload_n 0, 1) := by decide +kernel
theorem dX5_receiveModes_55 : decode cX5_receiveModes 55 = .ok (.getfield 18, 3) := by decide +kernel
theorem dX5_receiveModes_58 : decode cX5_receiveModes 58 = .ok (.iload_n 3, 1) := by decide +kernel
theorem dX5_receiveModes_59 : decode cX5_receiveModes 59 = .ok (.iload_n 2, 1) := by decide +kernel
theorem dX5_receiveModes_60 : decode cX5_receiveModes 60 = .ok (.aload_n 1, 1) := by decide +kernel
theorem dX5_receiveModes_61 : decode cX5_receiveModes 61 = .ok (.invokevirtual 119, 3) := by decide +kernel
theorem dX5_receiveModes_64 : decode cX5_receiveModes 64 = .ok (.return_, 1) := by decide +kernel
theorem dX5_isGone_0 : decode cX5_isGone 0 = .ok (.aload_n 0, 1) := by decide +kernel
theorem dX5_isGone_1 : decode cX5_isGone 1 = .ok (.getfield 11, 3) := by decide +kernel
theorem dX5_isGone_4 : decode cX5_isGone 4 = .ok (.aload_n 0, 1) := by decide +kernel
theorem dX5_isGone_5 : decode cX5_isGone 5 = .ok (.getfield 22, 3) := by decide +kernel
theorem dX5_isGone_8 : decode cX5_isGone 8 = .ok (.iload_n 1, 1) := by decide +kernel
theorem dX5_isGone_9 : decode cX5_isGone 9 = .ok (.iaload, 1) := by decide +kernel
theorem dX5_isGone_10 : decode cX5_isGone 10 = .ok (.aaload, 1) := by decide +kernel
theorem dX5_isGone_11 : decode cX5_isGone 11 = .ok (.iload_n 1, 1) := by decide +kernel
theorem dX5_isGone_12 : decode cX5_isGone 12 = .ok (.invokevirtual 223, 3) := by decide +kernel
theorem dX5_isGone_15 : decode cX5_isGone 15 = .ok (.ifCond .ne 7, 3) := by decide +kernel
theorem dX5_isGone_18 : decode cX5_isGone 18 = .ok (.iconst 1, 1) := by decide +kernel
theorem dX5_isGone_19 : decode cX5_isGone 19 = .ok (.goto 4, 3) := by decide +kernel
theorem dX5_isGone_22 : decode cX5_isGone 22 = .ok (.iconst 0, 1) := by decide +kernel
theorem dX5_isGone_23 : decode cX5_isGone 23 = .ok (.ireturn, 1) := by decide +kernel
theorem dX5_namesake_0 : decode cX5_namesake 0 = .ok (.iconst 0, 1) := by decide +kernel
theorem dX5_namesake_1 : decode cX5_namesake 1 = .ok (.istore 4, 2) := by decide +kernel
theorem dX5_namesake_3 : decode cX5_namesake 3 = .ok (.iload 4, 2) := by decide +kernel
theorem dX5_namesake_5 : decode cX5_namesake 5 = .ok (.aload_n 0, 1) := by decide +kernel
theorem dX5_namesake_6 : decode cX5_namesake 6 = .ok (.getfield 39, 3) := by decide +kernel
theorem dX5_namesake_9 : decode cX5_namesake 9 = .ok (.if_icmp .ge 38, 3) := by decide +kernel
theorem dX5_namesake_12 : decode cX5_namesake 12 = .ok (.iload 4, 2) := by decide +kernel
theorem dX5_namesake_14 : decode cX5_namesake 14 = .ok (.iload_n 3, 1) := by decide +kernel
theorem dX5_namesake_15 : decode cX5_namesake 15 = .ok (.if_icmp .eq 26, 3) := by decide +kernel
theorem dX5_namesake_18 : decode cX5_namesake 18 = .ok (.aload_n 0, 1) := by decide +kernel
theorem dX5_namesake_19 : decode cX5_namesake 19 = .ok (.getfield 26, 3) := by decide +kernel
theorem dX5_namesake_22 : decode cX5_namesake 22 = .ok (.iload 4, 2) := by decide +kernel
theorem dX5_namesake_24 : decode cX5_namesake 24 = .ok (.iaload, 1) := by decide +kernel
theorem dX5_namesake_25 : decode cX5_namesake 25 = .ok (.iload_n 2, 1) := by decide +kernel
theorem dX5_namesake_26 : decode cX5_namesake 26 = .ok (.if_icmp .ne 15, 3) := by decide +kernel
theorem dX5_namesake_29 : decode cX5_namesake 29 = .ok (.aload_n 1, 1) := by decide +kernel
theorem dX5_namesake_30 : decode cX5_namesake 30 = .ok (.iload 4, 2) := by decide +kernel
theorem dX5_namesake_32 : decode cX5_namesake 32 = .ok (.invokevirtual 223, 3) := by decide +kernel
theorem dX5_namesake_35 : decode cX5_namesake 35 = .ok (.ifCond .eq 6, 3) := by decide +kernel
theorem dX5_namesake_38 : decode cX5_namesake 38 = .ok (.iload 4, 2) := by decide +kernel
theorem dX5_namesake_40 : decode cX5_namesake 40 = .ok (.ireturn, 1) := by decide +kernel
theorem dX5_namesake_41 : decode cX5_namesake 41 = .ok (.iinc 4 1, 3) := by decide +kernel
theorem dX5_namesake_44 : decode cX5_namesake 44 = .ok (.goto (-41), 3) := by decide +kernel
theorem dX5_namesake_47 : decode cX5_namesake 47 = .ok (.iconst (-1), 1) := by decide +kernel
theorem dX5_namesake_48 : decode cX5_namesake 48 = .ok (.ireturn, 1) := by decide +kernel
theorem dX5_eldestOf_0 : decode cX5_eldestOf 0 = .ok (.iconst (-1), 1) := by decide +kernel
theorem dX5_eldestOf_1 : decode cX5_eldestOf 1 = .ok (.istore_n 2, 1) := by decide +kernel
theorem dX5_eldestOf_2 : decode cX5_eldestOf 2 = .ok (.iconst 0, 1) := by decide +kernel
theorem dX5_eldestOf_3 : decode cX5_eldestOf 3 = .ok (.istore_n 3, 1) := by decide +kernel
theorem dX5_eldestOf_4 : decode cX5_eldestOf 4 = .ok (.iload_n 3, 1) := by decide +kernel
theorem dX5_eldestOf_5 : decode cX5_eldestOf 5 = .ok (.aload_n 0, 1) := by decide +kernel
theorem dX5_eldestOf_6 : decode cX5_eldestOf 6 = .ok (.getfield 39, 3) := by decide +kernel
theorem dX5_eldestOf_9 : decode cX5_eldestOf 9 = .ok (.if_icmp .ge 39, 3) := by decide +kernel
theorem dX5_eldestOf_12 : decode cX5_eldestOf 12 = .ok (.iload_n 1, 1) := by decide +kernel
theorem dX5_eldestOf_13 : decode cX5_eldestOf 13 = .ok (.iload_n 3, 1) := by decide +kernel
theorem dX5_eldestOf_14 : decode cX5_eldestOf 14 = .ok (.invokestatic 55, 3) := by decide +kernel
theorem dX5_eldestOf_17 : decode cX5_eldestOf 17 = .ok (.ifCond .eq 25, 3) := by decide +kernel
theorem dX5_eldestOf_20 : decode cX5_eldestOf 20 = .ok (.iload_n 2, 1) := by decide +kernel
theorem dX5_eldestOf_21 : decode cX5_eldestOf 21 = .ok (.iconst (-1), 1) := by decide +kernel
theorem dX5_eldestOf_22 : decode cX5_eldestOf 22 = .ok (.if_icmp .eq 18, 3) := by decide +kernel
theorem dX5_eldestOf_25 : decode cX5_eldestOf 25 = .ok (.aload_n 0, 1) := by decide +kernel
theorem dX5_eldestOf_26 : decode cX5_eldestOf 26 = .ok (.getfield 29, 3) := by decide +kernel
theorem dX5_eldestOf_29 : decode cX5_eldestOf 29 = .ok (.iload_n 3, 1) := by decide +kernel
theorem dX5_eldestOf_30 : decode cX5_eldestOf 30 = .ok (.iaload, 1) := by decide +kernel
theorem dX5_eldestOf_31 : decode cX5_eldestOf 31 = .ok (.aload_n 0, 1) := by decide +kernel
theorem dX5_eldestOf_32 : decode cX5_eldestOf 32 = .ok (.getfield 29, 3) := by decide +kernel
theorem dX5_eldestOf_35 : decode cX5_eldestOf 35 = .ok (.iload_n 2, 1) := by decide +kernel
theorem dX5_eldestOf_36 : decode cX5_eldestOf 36 = .ok (.iaload, 1) := by decide +kernel
theorem dX5_eldestOf_37 : decode cX5_eldestOf 37 = .ok (.if_icmp .ge 5, 3) := by decide +kernel
theorem dX5_eldestOf_40 : decode cX5_eldestOf 40 = .ok (.iload_n 3, 1) := by decide +kernel
theorem dX5_eldestOf_41 : decode cX5_eldestOf 41 = .ok (.istore_n 2, 1) := by decide +kernel
theorem dX5_eldestOf_42 : decode cX5_eldestOf 42 = .ok (.iinc 3 1, 3) := by decide +kernel
theorem dX5_eldestOf_45 : decode cX5_eldestOf 45 = .ok (.goto (-41), 3) := by decide +kernel
theorem dX5_eldestOf_48 : decode cX5_eldestOf 48 = .ok (.iload_n 2, 1) := by decide +kernel
theorem dX5_eldestOf_49 : decode cX5_eldestOf 49 = .ok (.ireturn, 1) := by decide +kernel
theorem dX5_homesOf_0 : decode cX5_homesOf 0 = .ok (.iconst 0, 1) := by decide +kernel
theorem dX5_homesOf_1 : decode cX5_homesOf 1 = .ok (.istore_n 2, 1) := by decide +kernel
theorem dX5_homesOf_2 : decode cX5_homesOf 2 = .ok (.iconst 0, 1) := by decide +kernel
theorem dX5_homesOf_3 : decode cX5_homesOf 3 = .ok (.istore_n 3, 1) := by decide +kernel
theorem dX5_homesOf_4 : decode cX5_homesOf 4 = .ok (.iload_n 3, 1) := by decide +kernel
theorem dX5_homesOf_5 : decode cX5_homesOf 5 = .ok (.aload_n 0, 1) := by decide +kernel
theorem dX5_homesOf_6 : decode cX5_homesOf 6 = .ok (.getfield 39, 3) := by decide +kernel
theorem dX5_homesOf_9 : decode cX5_homesOf 9 = .ok (.if_icmp .ge 28, 3) := by decide +kernel
theorem dX5_homesOf_12 : decode cX5_homesOf 12 = .ok (.iload_n 1, 1) := by decide +kernel
theorem dX5_homesOf_13 : decode cX5_homesOf 13 = .ok (.iload_n 3, 1) := by decide +kernel
theorem dX5_homesOf_14 : decode cX5_homesOf 14 = .ok (.invokestatic 55, 3) := by decide +kernel
theorem dX5_homesOf_17 : decode cX5_homesOf 17 = .ok (.ifCond .eq 14, 3) := by decide +kernel
theorem dX5_homesOf_20 : decode cX5_homesOf 20 = .ok (.iload_n 2, 1) := by decide +kernel
theorem dX5_homesOf_21 : decode cX5_homesOf 21 = .ok (.iconst 1, 1) := by decide +kernel
theorem dX5_homesOf_22 : decode cX5_homesOf 22 = .ok (.aload_n 0, 1) := by decide +kernel
theorem dX5_homesOf_23 : decode cX5_homesOf 23 = .ok (.getfield 22, 3) := by decide +kernel
theorem dX5_homesOf_26 : decode cX5_homesOf 26 = .ok (.iload_n 3, 1) := by decide +kernel
theorem dX5_homesOf_27 : decode cX5_homesOf 27 = .ok (.iaload, 1) := by decide +kernel
theorem dX5_homesOf_28 : decode cX5_homesOf 28 = .ok (.ishl, 1) := by decide +kernel
theorem dX5_homesOf_29 : decode cX5_homesOf 29 = .ok (.ior, 1) := by decide +kernel
theorem dX5_homesOf_30 : decode cX5_homesOf 30 = .ok (.istore_n 2, 1) := by decide +kernel
theorem dX5_homesOf_31 : decode cX5_homesOf 31 = .ok (.iinc 3 1, 3) := by decide +kernel
theorem dX5_homesOf_34 : decode cX5_homesOf 34 = .ok (.goto (-30), 3) := by decide +kernel
theorem dX5_homesOf_37 : decode cX5_homesOf 37 = .ok (.iload_n 2, 1) := by decide +kernel
theorem dX5_homesOf_38 : decode cX5_homesOf 38 = .ok (.ireturn, 1) := by decide +kernel
theorem dX5_has_0 : decode cX5_has 0 = .ok (.iload_n 0, 1) := by decide +kernel
theorem dX5_has_1 : decode cX5_has 1 = .ok (.iload_n 1, 1) := by decide +kernel
theorem dX5_has_2 : decode cX5_has 2 = .ok (.ishr, 1) := by decide +kernel
theorem dX5_has_3 : decode cX5_has 3 = .ok (.iconst 1, 1) := by decide +kernel
theorem dX5_has_4 : decode cX5_has 4 = .ok (.iand, 1) := by decide +kernel
theorem dX5_has_5 : decode cX5_has 5 = .ok (.ifCond .eq 7, 3) := by decide +kernel
theorem dX5_has_8 : decode cX5_has 8 = .ok (.iconst 1, 1) := by decide +kernel
theorem dX5_has_9 : decode cX5_has 9 = .ok (.goto 4, 3) := by decide +kernel
theorem dX5_has_12 : decode cX5_has 12 = .ok (.iconst 0, 1) := by decide +kernel
theorem dX5_has_13 : decode cX5_has 13 = .ok (.ireturn, 1) := by decide +kernel
theorem dX5_letterIn_0 : decode cX5_letterIn 0 = .ok (.iload_n 0, 1) := by decide +kernel
theorem dX5_letterIn_1 : decode cX5_letterIn 1 = .ok (.bipush 97, 2) := by decide +kernel
theorem dX5_letterIn_3 : decode cX5_letterIn 3 = .ok (.if_icmp .lt 14, 3) := by decide +kernel
theorem dX5_letterIn_6 : decode cX5_letterIn 6 = .ok (.iload_n 0, 1) := by decide +kernel
theorem dX5_letterIn_7 : decode cX5_letterIn 7 = .ok (.bipush 122, 2) := by decide +kernel
theorem dX5_letterIn_9 : decode cX5_letterIn 9 = .ok (.if_icmp .gt 8, 3) := by decide +kernel
theorem dX5_letterIn_12 : decode cX5_letterIn 12 = .ok (.iload_n 0, 1) := by decide +kernel
theorem dX5_letterIn_13 : decode cX5_letterIn 13 = .ok (.bipush 97, 2) := by decide +kernel
theorem dX5_letterIn_15 : decode cX5_letterIn 15 = .ok (.isub, 1) := by decide +kernel
theorem dX5_letterIn_16 : decode cX5_letterIn 16 = .ok (.ireturn, 1) := by decide +kernel
theorem dX5_letterIn_17 : decode cX5_letterIn 17 = .ok (.iload_n 0, 1) := by decide +kernel
theorem dX5_letterIn_18 : decode cX5_letterIn 18 = .ok (.bipush 65, 2) := by decide +kernel
theorem dX5_letterIn_20 : decode cX5_letterIn 20 = .ok (.if_icmp .lt 14, 3) := by decide +kernel
theorem dX5_letterIn_23 : decode cX5_letterIn 23 = .ok (.iload_n 0, 1) := by decide +kernel
theorem dX5_letterIn_24 : decode cX5_letterIn 24 = .ok (.bipush 90, 2) := by decide +kernel
theorem dX5_letterIn_26 : decode cX5_letterIn 26 = .ok (.if_icmp .gt 8, 3) := by decide +kernel
theorem dX5_letterIn_29 : decode cX5_letterIn 29 = .ok (.iload_n 0, 1) := by decide +kernel
theorem dX5_letterIn_30 : decode cX5_letterIn 30 = .ok (.bipush 65, 2) := by decide +kernel
theorem dX5_letterIn_32 : decode cX5_letterIn 32 = .ok (.isub, 1) := by decide +kernel
theorem dX5_letterIn_33 : decode cX5_letterIn 33 = .ok (.ireturn, 1) := by decide +kernel
theorem dX5_letterIn_34 : decode cX5_letterIn 34 = .ok (.iconst (-1), 1) := by decide +kernel
theorem dX5_letterIn_35 : decode cX5_letterIn 35 = .ok (.ireturn, 1) := by decide +kernel
theorem dX5_settledSet_0 : decode cX5_settledSet 0 = .ok (.iload_n 0, 1) := by decide +kernel
theorem dX5_settledSet_1 : decode cX5_settledSet 1 = .ok (.iconst (-1), 1) := by decide +kernel
theorem dX5_settledSet_2 : decode cX5_settledSet 2 = .ok (.if_icmp .ne 5, 3) := by decide +kernel
theorem dX5_settledSet_5 : decode cX5_settledSet 5 = .ok (.iload_n 3, 1) := by decide +kernel
theorem dX5_settledSet_6 : decode cX5_settledSet 6 = .ok (.ireturn, 1) := by decide +kernel
theorem dX5_settledSet_7 : decode cX5_settledSet 7 = .ok (.iload_n 2, 1) := by decide +kernel
theorem dX5_settledSet_8 : decode cX5_settledSet 8 = .ok (.iconst (-1), 1) := by decide +kernel
theorem dX5_settledSet_9 : decode cX5_settledSet 9 = .ok (.if_icmp .ne 5, 3) := by decide +kernel
theorem dX5_settledSet_12 : decode cX5_settledSet 12 = .ok (.iload_n 1, 1) := by decide +kernel
theorem dX5_settledSet_13 : decode cX5_settledSet 13 = .ok (.ireturn, 1) := by decide +kernel
theorem dX5_settledSet_14 : decode cX5_settledSet 14 = .ok (.iload_n 0, 1) := by decide +kernel
theorem dX5_settledSet_15 : decode cX5_settledSet 15 = .ok (.iload_n 2, 1) := by decide +kernel
theorem dX5_settledSet_16 : decode cX5_settledSet 16 = .ok (.if_icmp .ne 7, 3) := by decide +kernel
theorem dX5_settledSet_19 : decode cX5_settledSet 19 = .ok (.iload_n 1, 1) := by decide +kernel
theorem dX5_settledSet_20 : decode cX5_settledSet 20 = .ok (.iload_n 3, 1) := by decide +kernel
theorem dX5_settledSet_21 : decode cX5_settledSet 21 = .ok (.ior, 1) := by decide +kernel
theorem dX5_settledSet_22 : decode cX5_settledSet 22 = .ok (.ireturn, 1) := by decide +kernel
theorem dX5_settledSet_23 : decode cX5_settledSet 23 = .ok (.iload_n 0, 1) := by decide +kernel
theorem dX5_settledSet_24 : decode cX5_settledSet 24 = .ok (.iload_n 2, 1) := by decide +kernel
theorem dX5_settledSet_25 : decode cX5_settledSet 25 = .ok (.if_icmp .ge 7, 3) := by decide +kernel
theorem dX5_settledSet_28 : decode cX5_settledSet 28 = .ok (.iload_n 1, 1) := by decide +kernel
theorem dX5_settledSet_29 : decode cX5_settledSet 29 = .ok (.goto 4, 3) := by decide +kernel
theorem dX5_settledSet_32 : decode cX5_settledSet 32 = .ok (.iload_n 3, 1) := by decide +kernel
theorem dX5_settledSet_33 : decode cX5_settledSet 33 = .ok (.ireturn, 1) := by decide +kernel
