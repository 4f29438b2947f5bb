theorem dX0_init_0 : decode cX0_init 0 = .ok (.aload_n 0, 1) := by decide +kernel
theorem dX0_init_1 : decode cX0_init 1 = .ok (.invokespecial 3, 3) := by decide +kernel
theorem dX0_init_4 : decode cX0_init 4 = .ok (.aload_n 0, 1) := by decide +kernel
theorem dX0_init_5 : decode cX0_init 5 = .ok (.bipush 100, 2) := by decide +kernel
theorem dX0_init_7 : decode cX0_init 7 = .ok (.newarray .int, 2) := by decide +kernel
theorem dX0_init_9 : decode cX0_init 9 = .ok (.putfield 9, 3) := by decide +kernel
theorem dX0_init_12 : decode cX0_init 12 = .ok (.return_, 1) := by decide +kernel
theorem dX0_weigh_0 : decode cX0_weigh 0 = .ok (.aload_n 0, 1) := by decide +kernel
theorem dX0_weigh_1 : decode cX0_weigh 1 = .ok (.getfield 9, 3) := by decide +kernel
theorem dX0_weigh_4 : decode cX0_weigh 4 = .ok (.iconst 1, 1) := by decide +kernel
theorem dX0_weigh_5 : decode cX0_weigh 5 = .ok (.iconst 0, 1) := by decide +kernel
theorem dX0_weigh_6 : decode cX0_weigh 6 = .ok (.iastore, 1) := by decide +kernel
theorem dX0_weigh_7 : decode cX0_weigh 7 = .ok (.iconst 2, 1) := by decide +kernel
theorem dX0_weigh_8 : decode cX0_weigh 8 = .ok (.istore_n 3, 1) := by decide +kernel
theorem dX0_weigh_9 : decode cX0_weigh 9 = .ok (.iload_n 3, 1) := by decide +kernel
theorem dX0_weigh_10 : decode cX0_weigh 10 = .ok (.iload_n 1, 1) := by decide +kernel
theorem dX0_weigh_11 : decode cX0_weigh 11 = .ok (.if_icmp .gt 62, 3) := by decide +kernel
theorem dX0_weigh_14 : decode cX0_weigh 14 = .ok (.iload_n 3, 1) := by decide +kernel
theorem dX0_weigh_15 : decode cX0_weigh 15 = .ok (.bipush 99, 2) := by decide +kernel
theorem dX0_weigh_17 : decode cX0_weigh 17 = .ok (.if_icmp .gt 56, 3) := by decide +kernel
theorem dX0_weigh_20 : decode cX0_weigh 20 = .ok (.bipush 99, 2) := by decide +kernel
theorem dX0_weigh_22 : decode cX0_weigh 22 = .ok (.istore 4, 2) := by decide +kernel
theorem dX0_weigh_24 : decode cX0_weigh 24 = .ok (.iconst 1, 1) := by decide +kernel
theorem dX0_weigh_25 : decode cX0_weigh 25 = .ok (.istore 5, 2) := by decide +kernel
theorem dX0_weigh_27 : decode cX0_weigh 27 = .ok (.iload 5, 2) := by decide +kernel
theorem dX0_weigh_29 : decode cX0_weigh 29 = .ok (.iload_n 2, 1) := by decide +kernel
theorem dX0_weigh_30 : decode cX0_weigh 30 = .ok (.if_icmp .gt 29, 3) := by decide +kernel
theorem dX0_weigh_33 : decode cX0_weigh 33 = .ok (.iload 5, 2) := by decide +kernel
theorem dX0_weigh_35 : decode cX0_weigh 35 = .ok (.iload_n 3, 1) := by decide +kernel
theorem dX0_weigh_36 : decode cX0_weigh 36 = .ok (.if_icmp .ge 23, 3) := by decide +kernel
theorem dX0_weigh_39 : decode cX0_weigh 39 = .ok (.iload 4, 2) := by decide +kernel
theorem dX0_weigh_41 : decode cX0_weigh 41 = .ok (.aload_n 0, 1) := by decide +kernel
theorem dX0_weigh_42 : decode cX0_weigh 42 = .ok (.iload_n 3, 1) := by decide +kernel
theorem dX0_weigh_43 : decode cX0_weigh 43 = .ok (.iload 5, 2) := by decide +kernel
theorem dX0_weigh_45 : decode cX0_weigh 45 = .ok (.invokevirtual 15, 3) := by decide +kernel
theorem dX0_weigh_48 : decode cX0_weigh 48 = .ok (.invokestatic 19, 3) := by decide +kernel
theorem dX0_weigh_51 : decode cX0_weigh 51 = .ok (.istore 4, 2) := by decide +kernel
theorem dX0_weigh_53 : decode cX0_weigh 53 = .ok (.iinc 5 1, 3) := by decide +kernel
theorem dX0_weigh_56 : decode cX0_weigh 56 = .ok (.goto (-29), 3) := by decide +kernel
theorem dX0_weigh_59 : decode cX0_weigh 59 = .ok (.aload_n 0, 1) := by decide +kernel
theorem dX0_weigh_60 : decode cX0_weigh 60 = .ok (.getfield 9, 3) := by decide +kernel
theorem dX0_weigh_63 : decode cX0_weigh 63 = .ok (.iload_n 3, 1) := by decide +kernel
theorem dX0_weigh_64 : decode cX0_weigh 64 = .ok (.iload 4, 2) := by decide +kernel
theorem dX0_weigh_66 : decode cX0_weigh 66 = .ok (.iastore, 1) := by decide +kernel
theorem dX0_weigh_67 : decode cX0_weigh 67 = .ok (.iinc 3 1, 3) := by decide +kernel
theorem dX0_weigh_70 : decode cX0_weigh 70 = .ok (.goto (-61), 3) := by decide +kernel
theorem dX0_weigh_73 : decode cX0_weigh 73 = .ok (.return_, 1) := by decide +kernel
theorem dX0_fewestFor_0 : decode cX0_fewestFor 0 = .ok (.iload_n 1, 1) := by decide +kernel
theorem dX0_fewestFor_1 : decode cX0_fewestFor 1 = .ok (.iconst 1, 1) := by decide +kernel
theorem dX0_fewestFor_2 : decode cX0_fewestFor 2 = .ok (.bipush 99, 2) := by decide +kernel
theorem dX0_fewestFor_4 : decode cX0_fewestFor 4 = .ok (.invokestatic 24, 3) := by decide +kernel
theorem dX0_fewestFor_7 : decode cX0_fewestFor 7 = .ok (.ifCond .eq 12, 3) := by decide +kernel
theorem dX0_fewestFor_10 : decode cX0_fewestFor 10 = .ok (.aload_n 0, 1) := by decide +kernel
theorem dX0_fewestFor_11 : decode cX0_fewestFor 11 = .ok (.getfield 9, 3) := by decide +kernel
theorem dX0_fewestFor_14 : decode cX0_fewestFor 14 = .ok (.iload_n 1, 1) := by decide +kernel
theorem dX0_fewestFor_15 : decode cX0_fewestFor 15 = .ok (.iaload, 1) := by decide +kernel
theorem dX0_fewestFor_16 : decode cX0_fewestFor 16 = .ok (.goto 4, 3) := by decide +kernel
theorem dX0_fewestFor_19 : decode cX0_fewestFor 19 = .ok (.iconst 0, 1) := by decide +kernel
theorem dX0_fewestFor_20 : decode cX0_fewestFor 20 = .ok (.ireturn, 1) := by decide +kernel
theorem dX0_leastFirst_0 : decode cX0_leastFirst 0 = .ok (.iconst 1, 1) := by decide +kernel
theorem dX0_leastFirst_1 : decode cX0_leastFirst 1 = .ok (.istore_n 3, 1) := by decide +kernel
theorem dX0_leastFirst_2 : decode cX0_leastFirst 2 = .ok (.iload_n 3, 1) := by decide +kernel
theorem dX0_leastFirst_3 : decode cX0_leastFirst 3 = .ok (.iload_n 2, 1) := by decide +kernel
theorem dX0_leastFirst_4 : decode cX0_leastFirst 4 = .ok (.if_icmp .gt 30, 3) := by decide +kernel
theorem dX0_leastFirst_7 : decode cX0_leastFirst 7 = .ok (.iload_n 3, 1) := by decide +kernel
theorem dX0_leastFirst_8 : decode cX0_leastFirst 8 = .ok (.iload_n 1, 1) := by decide +kernel
theorem dX0_leastFirst_9 : decode cX0_leastFirst 9 = .ok (.if_icmp .ge 25, 3) := by decide +kernel
theorem dX0_leastFirst_12 : decode cX0_leastFirst 12 = .ok (.aload_n 0, 1) := by decide +kernel
theorem dX0_leastFirst_13 : decode cX0_leastFirst 13 = .ok (.iload_n 1, 1) := by decide +kernel
theorem dX0_leastFirst_14 : decode cX0_leastFirst 14 = .ok (.iload_n 3, 1) := by decide +kernel
theorem dX0_leastFirst_15 : decode cX0_leastFirst 15 = .ok (.invokevirtual 15, 3) := by decide +kernel
theorem dX0_leastFirst_18 : decode cX0_leastFirst 18 = .ok (.aload_n 0, 1) := by decide +kernel
theorem dX0_leastFirst_19 : decode cX0_leastFirst 19 = .ok (.iload_n 1, 1) := by decide +kernel
theorem dX0_leastFirst_20 : decode cX0_leastFirst 20 = .ok (.invokevirtual 28, 3) := by decide +kernel
theorem dX0_leastFirst_23 : decode cX0_leastFirst 23 = .ok (.if_icmp .ne 5, 3) := by decide +kernel
theorem dX0_leastFirst_26 : decode cX0_leastFirst 26 = .ok (.iload_n 3, 1) := by decide +kernel
theorem dX0_leastFirst_27 : decode cX0_leastFirst 27 = .ok (.ireturn, 1) := by decide +kernel
theorem dX0_leastFirst_28 : decode cX0_leastFirst 28 = .ok (.iinc 3 1, 3) := by decide +kernel
theorem dX0_leastFirst_31 : decode cX0_leastFirst 31 = .ok (.goto (-29), 3) := by decide +kernel
theorem dX0_leastFirst_34 : decode cX0_leastFirst 34 = .ok (.bipush (-6), 2) := by decide +kernel
theorem dX0_leastFirst_36 : decode cX0_leastFirst 36 = .ok (.ireturn, 1) := by decide +kernel
theorem dX0_withFirst_0 : decode cX0_withFirst 0 = .ok (.iconst 1, 1) := by decide +kernel
theorem dX0_withFirst_1 : decode cX0_withFirst 1 = .ok (.aload_n 0, 1) := by decide +kernel
theorem dX0_withFirst_2 : decode cX0_withFirst 2 = .ok (.iload_n 2, 1) := by decide +kernel
theorem dX0_withFirst_3 : decode cX0_withFirst 3 = .ok (.invokevirtual 28, 3) := by decide +kernel
theorem dX0_withFirst_6 : decode cX0_withFirst 6 = .ok (.aload_n 0, 1) := by decide +kernel
theorem dX0_withFirst_7 : decode cX0_withFirst 7 = .ok (.iload_n 1, 1) := by decide +kernel
theorem dX0_withFirst_8 : decode cX0_withFirst 8 = .ok (.iload_n 2, 1) := by decide +kernel
theorem dX0_withFirst_9 : decode cX0_withFirst 9 = .ok (.isub, 1) := by decide +kernel
theorem dX0_withFirst_10 : decode cX0_withFirst 10 = .ok (.invokevirtual 28, 3) := by decide +kernel
theorem dX0_withFirst_13 : decode cX0_withFirst 13 = .ok (.invokestatic 32, 3) := by decide +kernel
theorem dX0_withFirst_16 : decode cX0_withFirst 16 = .ok (.iadd, 1) := by decide +kernel
theorem dX0_withFirst_17 : decode cX0_withFirst 17 = .ok (.ireturn, 1) := by decide +kernel
theorem dX1_init_0 : decode cX1_init 0 = .ok (.aload_n 0, 1) := by decide +kernel
theorem dX1_init_1 : decode cX1_init 1 = .ok (.invokespecial 3, 3) := by decide +kernel
theorem dX1_init_4 : decode cX1_init 4 = .ok (.aload_n 0, 1) := by decide +kernel
theorem dX1_init_5 : decode cX1_init 5 = .ok (.bipush 8, 2) := by decide +kernel
theorem dX1_init_7 : decode cX1_init 7 = .ok (.newarray .int, 2) := by decide +kernel
theorem dX1_init_9 : decode cX1_init 9 = .ok (.putfield 9, 3) := by decide +kernel
theorem dX1_init_12 : decode cX1_init 12 = .ok (.aload_n 0, 1) := by decide +kernel
theorem dX1_init_13 : decode cX1_init 13 = .ok (.bipush 8, 2) := by decide +kernel
theorem dX1_init_15 : decode cX1_init 15 = .ok (.newarray .int, 2) := by decide +kernel
theorem dX1_init_17 : decode cX1_init 17 = .ok (.putfield 15, 3) := by decide +kernel
theorem dX1_init_20 : decode cX1_init 20 = .ok (.aload_n 0, 1) := by decide +kernel
theorem dX1_init_21 : decode cX1_init 21 = .ok (.iconst 3, 1) := by decide +kernel
theorem dX1_init_22 : decode cX1_init 22 = .ok (.putfield 18, 3) := by decide +kernel
theorem dX1_init_25 : decode cX1_init 25 = .ok (.aload_n 0, 1) := by decide +kernel
theorem dX1_init_26 : decode cX1_init 26 = .ok (.iconst 5, 1) := by decide +kernel
theorem dX1_init_27 : decode cX1_init 27 = .ok (.putfield 22, 3) := by decide +kernel
theorem dX1_init_30 : decode cX1_init 30 = .ok (.return_, 1) := by decide +kernel
theorem dX1_become_0 : decode cX1_become 0 = .ok (.aload_n 1, 1) := by decide +kernel
theorem dX1_become_1 : decode cX1_become 1 = .ok (.getfield 9, 3) := by decide +kernel
theorem dX1_become_4 : decode cX1_become 4 = .ok (.iconst 0, 1) := by decide +kernel
theorem dX1_become_5 : decode cX1_become 5 = .ok (.aload_n 0, 1) := by decide +kernel
theorem dX1_become_6 : decode cX1_become 6 = .ok (.getfield 9, 3) := by decide +kernel
theorem dX1_become_9 : decode cX1_become 9 = .ok (.iconst 0, 1) := by decide +kernel
theorem dX1_become_10 : decode cX1_become 10 = .ok (.bipush 8, 2) := by decide +kernel
theorem dX1_become_12 : decode cX1_become 12 = .ok (.invokestatic 25, 3) := by decide +kernel
theorem dX1_become_15 : decode cX1_become 15 = .ok (.aload_n 1, 1) := by decide +kernel
theorem dX1_become_16 : decode cX1_become 16 = .ok (.getfield 15, 3) := by decide +kernel
theorem dX1_become_19 : decode cX1_become 19 = .ok (.iconst 0, 1) := by decide +kernel
theorem dX1_become_20 : decode cX1_become 20 = .ok (.aload_n 0, 1) := by decide +kernel
theorem dX1_become_21 : decode cX1_become 21 = .ok (.getfield 15, 3) := by decide +kernel
theorem dX1_become_24 : decode cX1_become 24 = .ok (.iconst 0, 1) := by decide +kernel
theorem dX1_become_25 : decode cX1_become 25 = .ok (.bipush 8, 2) := by decide +kernel
theorem dX1_become_27 : decode cX1_become 27 = .ok (.invokestatic 25, 3) := by decide +kernel
theorem dX1_become_30 : decode cX1_become 30 = .ok (.aload_n 0, 1) := by decide +kernel
theorem dX1_become_31 : decode cX1_become 31 = .ok (.aload_n 1, 1) := by decide +kernel
theorem dX1_become_32 : decode cX1_become 32 = .ok (.getfield 31, 3) := by decide +kernel
theorem dX1_become_35 : decode cX1_become 35 = .ok (.putfield 31, 3) := by decide +kernel
theorem dX1_become_38 : decode cX1_become 38 = .ok (.aload_n 0, 1) := by decide +kernel
theorem dX1_become_39 : decode cX1_become 39 = .ok (.aload_n 1, 1) := by decide +kernel
theorem dX1_become_40 : decode cX1_become 40 = .ok (.getfield 34, 3) := by decide +kernel
theorem dX1_become_43 : decode cX1_become 43 = .ok (.putfield 34, 3) := by decide +kernel
theorem dX1_become_46 : decode cX1_become 46 = .ok (.aload_n 0, 1) := by decide +kernel
theorem dX1_become_47 : decode cX1_become 47 = .ok (.aload_n 1, 1) := by decide +kernel
theorem dX1_become_48 : decode cX1_become 48 = .ok (.getfield 37, 3) := by decide +kernel
theorem dX1_become_51 : decode cX1_become 51 = .ok (.putfield 37, 3) := by decide +kernel
theorem dX1_become_54 : decode cX1_become 54 = .ok (.aload_n 0, 1) := by decide +kernel
theorem dX1_become_55 : decode cX1_become 55 = .ok (.aload_n 1, 1) := by decide +kernel
theorem dX1_become_56 : decode cX1_become 56 = .ok (.getfield 18, 3) := by decide +kernel
theorem dX1_become_59 : decode cX1_become 59 = .ok (.putfield 18, 3) := by decide +kernel
theorem dX1_become_62 : decode cX1_become 62 = .ok (.aload_n 0, 1) := by decide +kernel
theorem dX1_become_63 : decode cX1_become 63 = .ok (.aload_n 1, 1) := by decide +kernel
theorem dX1_become_64 : decode cX1_become 64 = .ok (.getfield 22, 3) := by decide +kernel
theorem dX1_become_67 : decode cX1_become 67 = .ok (.putfield 22, 3) := by decide +kernel
theorem dX1_become_70 : decode cX1_become 70 = .ok (.aload_n 0, 1) := by decide +kernel
theorem dX1_become_71 : decode cX1_become 71 = .ok (.aload_n 1, 1) := by decide +kernel
theorem dX1_become_72 : decode cX1_become 72 = .ok (.getfield 40, 3) := by decide +kernel
theorem dX1_become_75 : decode cX1_become 75 = .ok (.putfield 40, 3) := by decide +kernel
theorem dX1_become_78 : decode cX1_become 78 = .ok (.return_, 1) := by decide +kernel
theorem dX1_seat_0 : decode cX1_seat 0 = .ok (.iload_n 1, 1) := by decide +kernel
theorem dX1_seat_1 : decode cX1_seat 1 = .ok (.invokestatic 43, 3) := by decide +kernel
theorem dX1_seat_4 : decode cX1_seat 4 = .ok (.ifCond .ne 4, 3) := by decide +kernel
theorem dX1_seat_7 : decode cX1_seat 7 = .ok (.return_, 1) := by decide +kernel
theorem dX1_seat_8 : decode cX1_seat 8 = .ok (.iconst 1, 1) := by decide +kernel
theorem dX1_seat_9 : decode cX1_seat 9 = .ok (.iload_n 1, 1) := by decide +kernel
theorem dX1_seat_10 : decode cX1_seat 10 = .ok (.ishl, 1) := by decide +kernel
theorem dX1_seat_11 : decode cX1_seat 11 = .ok (.istore 5, 2) := by decide +kernel
theorem dX1_seat_13 : decode cX1_seat 13 = .ok (.aload_n 0, 1) := by decide +kernel
theorem dX1_seat_14 : decode cX1_seat 14 = .ok (.getfield 9, 3) := by decide +kernel
theorem dX1_seat_17 : decode cX1_seat 17 = .ok (.iload_n 1, 1) := by decide +kernel
theorem dX1_seat_18 : decode cX1_seat 18 = .ok (.iload_n 2, 1) := by decide +kernel
theorem dX1_seat_19 : decode cX1_seat 19 = .ok (.iastore, 1) := by decide +kernel
theorem dX1_seat_20 : decode cX1_seat 20 = .ok (.aload_n 0, 1) := by decide +kernel
theorem dX1_seat_21 : decode cX1_seat 21 = .ok (.getfield 15, 3) := by decide +kernel
theorem dX1_seat_24 : decode cX1_seat 24 = .ok (.iload_n 1, 1) := by decide +kernel
theorem dX1_seat_25 : decode cX1_seat 25 = .ok (.iload 4, 2) := by decide +kernel
theorem dX1_seat_27 : decode cX1_seat 27 = .ok (.iastore, 1) := by decide +kernel
theorem dX1_seat_28 : decode cX1_seat 28 = .ok (.aload_n 0, 1) := by decide +kernel
theorem dX1_seat_29 : decode cX1_seat 29 = .ok (.dup, 1) := by decide +kernel
theorem dX1_seat_30 : decode cX1_seat 30 = .ok (.getfield 31, 3) := by decide +kernel
theorem dX1_seat_33 : decode cX1_seat 33 = .ok (.iload 5, 2) := by decide +kernel
theorem dX1_seat_35 : decode cX1_seat 35 = .ok (.ior, 1) := by decide +kernel
theorem dX1_seat_36 : decode cX1_seat 36 = .ok (.putfield 31, 3) := by decide +kernel
theorem dX1_seat_39 : decode cX1_seat 39 = .ok (.aload_n 0, 1) := by decide +kernel
theorem dX1_seat_40 : decode cX1_seat 40 = .ok (.iload_n 3, 1) := by decide +kernel
theorem dX1_seat_41 : decode cX1_seat 41 = .ok (.ifCond .eq 13, 3) := by decide +kernel
theorem dX1_seat_44 : decode cX1_seat 44 = .ok (.aload_n 0, 1) := by decide +kernel
theorem dX1_seat_45 : decode cX1_seat 45 = .ok (.getfield 34, 3) := by decide +kernel
theorem dX1_seat_48 : decode cX1_seat 48 = .ok (.iload 5, 2) := by decide +kernel
theorem dX1_seat_50 : decode cX1_seat 50 = .ok (.ior, 1) := by decide +kernel
theorem dX1_seat_51 : decode cX1_seat 51 = .ok (.goto 12, 3) := by decide +kernel
theorem dX1_seat_54 : decode cX1_seat 54 = .ok (.aload_n 0, 1) := by decide +kernel
theorem dX1_seat_55 : decode cX1_seat 55 = .ok (.getfield 34, 3) := by decide +kernel
theorem dX1_seat_58 : decode cX1_seat 58 = .ok (.iload 5, 2) := by decide +kernel
theorem dX1_seat_60 : decode cX1_seat 60 = .ok (.iconst (-1), 1) := by decide +kernel
theorem dX1_seat_61 : decode cX1_seat 61 = .ok (.ixor, 1) := by decide +kernel
theorem dX1_seat_62 : decode cX1_seat 62 = .ok (.iand, 1) := by decide +kernel
theorem dX1_seat_63 : decode cX1_seat 63 = .ok (.putfield 34, 3) := by decide +kernel
theorem dX1_seat_66 : decode cX1_seat 66 = .ok (.return_, 1) := by decide +kernel
theorem dX1_has_0 : decode cX1_has 0 = .ok (.iload_n 1, 1) := by decide +kernel
theorem dX1_has_1 : decode cX1_has 1 = .ok (.invokestatic 43, 3) := by decide +kernel
theorem dX1_has_4 : decode cX1_has 4 = .ok (.ifCond .eq 19, 3) := by decide +kernel
theorem dX1_has_7 : decode cX1_has 7 = .ok (.aload_n 0, 1) := by decide +kernel
theorem dX1_has_8 : decode cX1_has 8 = .ok (.getfield 31, 3) := by decide +kernel
theorem dX1_has_11 : decode cX1_has 11 = .ok (.iload_n 1, 1) := by decide +kernel
theorem dX1_has_12 : decode cX1_has 12 = .ok (.ishr, 1) := by decide +kernel
theorem dX1_has_13 : decode cX1_has 13 = .ok (.iconst 1, 1) := by decide +kernel
theorem dX1_has_14 : decode cX1_has 14 = .ok (.iand, 1) := by decide +kernel
theorem dX1_has_15 : decode cX1_has 15 = .ok (.iconst 1, 1) := by decide +kernel
theorem dX1_has_16 : decode cX1_has 16 = .ok (.if_icmp .ne 7, 3) := by decide +kernel
theorem dX1_has_19 : decode cX1_has 19 = .ok (.iconst 1, 1) := by decide +kernel
theorem dX1_has_20 : decode cX1_has 20 = .ok (.goto 4, 3) := by decide +kernel
theorem dX1_has_23 : decode cX1_has 23 = .ok (.iconst 0, 1) := by decide +kernel
theorem dX1_has_24 : decode cX1_has 24 = .ok (.ireturn, 1) := by decide +kernel
theorem dX1_isLiar_0 : decode cX1_isLiar 0 = .ok (.iload_n 1, 1) := by decide +kernel
theorem dX1_isLiar_1 : decode cX1_isLiar 1 = .ok (.invokestatic 43, 3) := by decide +kernel
theorem dX1_isLiar_4 : decode cX1_isLiar 4 = .ok (.ifCond .eq 19, 3) := by decide +kernel
theorem dX1_isLiar_7 : decode cX1_isLiar 7 = .ok (.aload_n 0, 1) := by decide +kernel
theorem dX1_isLiar_8 : decode cX1_isLiar 8 = .ok (.getfield 34, 3) := by decide +kernel
theorem dX1_isLiar_11 : decode cX1_isLiar 11 = .ok (.iload_n 1, 1) := by decide +kernel
theorem dX1_isLiar_12 : decode cX1_isLiar 12 = .ok (.ishr, 1) := by decide +kernel
theorem dX1_isLiar_13 : decode cX1_isLiar 13 = .ok (.iconst 1, 1) := by decide +kernel
theorem dX1_isLiar_14 : decode cX1_isLiar 14 = .ok (.iand, 1) := by decide +kernel
theorem dX1_isLiar_15 : decode cX1_isLiar 15 = .ok (.iconst 1, 1) := by decide +kernel
theorem dX1_isLiar_16 : decode cX1_isLiar 16 = .ok (.if_icmp .ne 7, 3) := by decide +kernel
theorem dX1_isLiar_19 : decode cX1_isLiar 19 = .ok (.iconst 1, 1) := by decide +kernel
theorem dX1_isLiar_20 : decode cX1_isLiar 20 = .ok (.goto 4, 3) := by decide +kernel
theorem dX1_isLiar_23 : decode cX1_isLiar 23 = .ok (.iconst 0, 1) := by decide +kernel
theorem dX1_isLiar_24 : decode cX1_isLiar 24 = .ok (.ireturn, 1) := by decide +kernel
theorem dX1_liars_0 : decode cX1_liars 0 = .ok (.aload_n 0, 1) := by decide +kernel
theorem dX1_liars_1 : decode cX1_liars 1 = .ok (.getfield 31, 3) := by decide +kernel
theorem dX1_liars_4 : decode cX1_liars 4 = .ok (.aload_n 0, 1) := by decide +kernel
theorem dX1_liars_5 : decode cX1_liars 5 = .ok (.getfield 34, 3) := by decide +kernel
theorem dX1_liars_8 : decode cX1_liars 8 = .ok (.iand, 1) := by decide +kernel
theorem dX1_liars_9 : decode cX1_liars 9 = .ok (.ireturn, 1) := by decide +kernel
theorem dX1_placeOf_0 : decode cX1_placeOf 0 = .ok (.iload_n 1, 1) := by decide +kernel
theorem dX1_placeOf_1 : decode cX1_placeOf 1 = .ok (.invokestatic 43, 3) := by decide +kernel
theorem dX1_placeOf_4 : decode cX1_placeOf 4 = .ok (.ifCond .eq 12, 3) := by decide +kernel
theorem dX1_placeOf_7 : decode cX1_placeOf 7 = .ok (.aload_n 0, 1) := by decide +kernel
theorem dX1_placeOf_8 : decode cX1_placeOf 8 = .ok (.getfield 9, 3) := by decide +kernel
theorem dX1_placeOf_11 : decode cX1_placeOf 11 = .ok (.iload_n 1, 1) := by decide +kernel
theorem dX1_placeOf_12 : decode cX1_placeOf 12 = .ok (.iaload, 1) := by decide +kernel
theorem dX1_placeOf_13 : decode cX1_placeOf 13 = .ok (.goto 4, 3) := by decide +kernel
theorem dX1_placeOf_16 : decode cX1_placeOf 16 = .ok (.iconst 0, 1) := by decide +kernel
theorem dX1_placeOf_17 : decode cX1_placeOf 17 = .ok (.ireturn, 1) := by decide +kernel
theorem dX1_creamOf_0 : decode cX1_creamOf 0 = .ok (.iload_n 1, 1) := by decide +kernel
theorem dX1_creamOf_1 : decode cX1_creamOf 1 = .ok (.invokestatic 43, 3) := by decide +kernel
theorem dX1_creamOf_4 : decode cX1_creamOf 4 = .ok (.ifCond .eq 12, 3) := by decide +kernel
theorem dX1_creamOf_7 : decode cX1_creamOf 7 = .ok (.aload_n 0, 1) := by decide +kernel
theorem dX1_creamOf_8 : decode cX1_creamOf 8 = .ok (.getfield 15, 3) := by decide +kernel
theorem dX1_creamOf_11 : decode cX1_creamOf 11 = .ok (.iload_n 1, 1) := by decide +kernel
theorem dX1_creamOf_12 : decode cX1_creamOf 12 = .ok (.iaload, 1) := by decide +kernel
theorem dX1_creamOf_13 : decode cX1_creamOf 13 = .ok (.goto 4, 3) := by decide +kernel
theorem dX1_creamOf_16 : decode cX1_creamOf 16 = .ok (.iconst 0, 1) := by decide +kernel
theorem dX1_creamOf_17 : decode cX1_creamOf 17 = .ok (.ireturn, 1) := by decide +kernel
theorem dX1_offOnes_0 : decode cX1_offOnes 0 = .ok (.iconst 0, 1) := by decide +kernel
theorem dX1_offOnes_1 : decode cX1_offOnes 1 = .ok (.istore_n 1, 1) := by decide +kernel
theorem dX1_offOnes_2 : decode cX1_offOnes 2 = .ok (.iconst 0, 1) := by decide +kernel
theorem dX1_offOnes_3 : decode cX1_offOnes 3 = .ok (.istore_n 2, 1) := by decide +kernel
theorem dX1_offOnes_4 : decode cX1_offOnes 4 = .ok (.iload_n 2, 1) := by decide +kernel
theorem dX1_offOnes_5 : decode cX1_offOnes 5 = .ok (.bipush 8, 2) := by decide +kernel
theorem dX1_offOnes_7 : decode cX1_offOnes 7 = .ok (.if_icmp .ge 32, 3) := by decide +kernel
theorem dX1_offOnes_10 : decode cX1_offOnes 10 = .ok (.aload_n 0, 1) := by decide +kernel
theorem dX1_offOnes_11 : decode cX1_offOnes 11 = .ok (.iload_n 2, 1) := by decide +kernel
theorem dX1_offOnes_12 : decode cX1_offOnes 12 = .ok (.invokevirtual 47, 3) := by decide +kernel
theorem dX1_offOnes_15 : decode cX1_offOnes 15 = .ok (.ifCond .eq 18, 3) := by decide +kernel
theorem dX1_offOnes_18 : decode cX1_offOnes 18 = .ok (.aload_n 0, 1) := by decide +kernel
theorem dX1_offOnes_19 : decode cX1_offOnes 19 = .ok (.getfield 15, 3) := by decide +kernel
theorem dX1_offOnes_22 : decode cX1_offOnes 22 = .ok (.iload_n 2, 1) := by decide +kernel
theorem dX1_offOnes_23 : decode cX1_offOnes 23 = .ok (.iaload, 1) := by decide +kernel
theorem dX1_offOnes_24 : decode cX1_offOnes 24 = .ok (.ifCond .ne 9, 3) := by decide +kernel
theorem dX1_offOnes_27 : decode cX1_offOnes 27 = .ok (.iload_n 1, 1) := by decide +kernel
theorem dX1_offOnes_28 : decode cX1_offOnes 28 = .ok (.iconst 1, 1) := by decide +kernel
theorem dX1_offOnes_29 : decode cX1_offOnes 29 = .ok (.iload_n 2, 1) := by decide +kernel
theorem dX1_offOnes_30 : decode cX1_offOnes 30 = .ok (.ishl, 1) := by decide +kernel
theorem dX1_offOnes_31 : decode cX1_offOnes 31 = .ok (.ior, 1) := by decide +kernel
theorem dX1_offOnes_32 : decode cX1_offOnes 32 = .ok (.istore_n 1, 1) := by decide +kernel
theorem dX1_offOnes_33 : decode cX1_offOnes 33 = .ok (.iinc 2 1, 3) := by decide +kernel
theorem dX1_offOnes_36 : decode cX1_offOnes 36 = .ok (.goto (-32), 3) := by decide +kernel
theorem dX1_offOnes_39 : decode cX1_offOnes 39 = .ok (.iload_n 1, 1) := by decide +kernel
theorem dX1_offOnes_40 : decode cX1_offOnes 40 = .ok (.ireturn, 1) := by decide +kernel
theorem dX1_creamInAll_0 : decode cX1_creamInAll 0 = .ok (.iconst 0, 1) := by decide +kernel
theorem dX1_creamInAll_1 : decode cX1_creamInAll 1 = .ok (.istore_n 1, 1) := by decide +kernel
theorem dX1_creamInAll_2 : decode cX1_creamInAll 2 = .ok (.iconst 0, 1) := by decide +kernel
theorem dX1_creamInAll_3 : decode cX1_creamInAll 3 = .ok (.istore_n 2, 1) := by decide +kernel
theorem dX1_creamInAll_4 : decode cX1_creamInAll 4 = .ok (.iload_n 2, 1) := by decide +kernel
theorem dX1_creamInAll_5 : decode cX1_creamInAll 5 = .ok (.bipush 8, 2) := by decide +kernel
theorem dX1_creamInAll_7 : decode cX1_creamInAll 7 = .ok (.if_icmp .ge 26, 3) := by decide +kernel
theorem dX1_creamInAll_10 : decode cX1_creamInAll 10 = .ok (.aload_n 0, 1) := by decide +kernel
theorem dX1_creamInAll_11 : decode cX1_creamInAll 11 = .ok (.iload_n 2, 1) := by decide +kernel
theorem dX1_creamInAll_12 : decode cX1_creamInAll 12 = .ok (.invokevirtual 47, 3) := by decide +kernel
theorem dX1_creamInAll_15 : decode cX1_creamInAll 15 = .ok (.ifCond .eq 12, 3) := by decide +kernel
theorem dX1_creamInAll_18 : decode cX1_creamInAll 18 = .ok (.iload_n 1, 1) := by decide +kernel
theorem dX1_creamInAll_19 : decode cX1_creamInAll 19 = .ok (.aload_n 0, 1) := by decide +kernel
theorem dX1_creamInAll_20 : decode cX1_creamInAll 20 = .ok (.getfield 15, 3) := by decide +kernel
theorem dX1_creamInAll_23 : decode cX1_creamInAll 23 = .ok (.iload_n 2, 1) := by decide +kernel
theorem dX1_creamInAll_24 : decode cX1_creamInAll 24 = .ok (.iaload, 1) := by decide +kernel
theorem dX1_creamInAll_25 : decode cX1_creamInAll 25 = .ok (.iadd, 1) := by decide +kernel
theorem dX1_creamInAll_26 : decode cX1_creamInAll 26 = .ok (.istore_n 1, 1) := by decide +kernel
theorem dX1_creamInAll_27 : decode cX1_creamInAll 27 = .ok (.iinc 2 1, 3) := by decide +kernel
theorem dX1_creamInAll_30 : decode cX1_creamInAll 30 = .ok (.goto (-26), 3) := by decide +kernel
theorem dX1_creamInAll_33 : decode cX1_creamInAll 33 = .ok (.iload_n 1, 1) := by decide +kernel
theorem dX1_creamInAll_34 : decode cX1_creamInAll 34 = .ok (.ireturn, 1) := by decide +kernel
theorem dX1_lossInAnHour_0 : decode cX1_lossInAnHour 0 = .ok (.aload_n 0, 1) := by decide +kernel
theorem dX1_lossInAnHour_1 : decode cX1_lossInAnHour 1 = .ok (.iload_n 1, 1) := by decide +kernel
theorem dX1_lossInAnHour_2 : decode cX1_lossInAnHour 2 = .ok (.invokevirtual 50, 3) := by decide +kernel
theorem dX1_lossInAnHour_5 : decode cX1_lossInAnHour 5 = .ok (.aload_n 0, 1) := by decide +kernel
theorem dX1_lossInAnHour_6 : decode cX1_lossInAnHour 6 = .ok (.iload_n 1, 1) := by decide +kernel
theorem dX1_lossInAnHour_7 : decode cX1_lossInAnHour 7 = .ok (.invokevirtual 54, 3) := by decide +kernel
theorem dX1_lossInAnHour_10 : decode cX1_lossInAnHour 10 = .ok (.aload_n 0, 1) := by decide +kernel
theorem dX1_lossInAnHour_11 : decode cX1_lossInAnHour 11 = .ok (.getfield 18, 3) := by decide +kernel
theorem dX1_lossInAnHour_14 : decode cX1_lossInAnHour 14 = .ok (.aload_n 0, 1) := by decide +kernel
theorem dX1_lossInAnHour_15 : decode cX1_lossInAnHour 15 = .ok (.getfield 22, 3) := by decide +kernel
theorem dX1_lossInAnHour_18 : decode cX1_lossInAnHour 18 = .ok (.invokestatic 57, 3) := by decide +kernel
theorem dX1_lossInAnHour_21 : decode cX1_lossInAnHour 21 = .ok (.ireturn, 1) := by decide +kernel
theorem dX1_whyNot_0 : decode cX1_whyNot 0 = .ok (.iload_n 1, 1) := by decide +kernel
theorem dX1_whyNot_1 : decode cX1_whyNot 1 = .ok (.lookupswitch 86 #[(46, 71), (60, 53), (62, 35)], 35) := by decide +kernel
theorem dX1_whyNot_36 : decode cX1_whyNot 36 = .ok (.aload_n 0, 1) := by decide +kernel
theorem dX1_whyNot_37 : decode cX1_whyNot 37 = .ok (.getfield 37, 3) := by decide +kernel
theorem dX1_whyNot_40 : decode cX1_whyNot 40 = .ok (.iload_n 2, 1) := by decide +kernel
theorem dX1_whyNot_41 : decode cX1_whyNot 41 = .ok (.iadd, 1) := by decide +kernel
theorem dX1_whyNot_42 : decode cX1_whyNot 42 = .ok (.invokestatic 61, 3) := by decide +kernel
theorem dX1_whyNot_45 : decode cX1_whyNot 45 = .ok (.ifCond .eq 7, 3) := by decide +kernel
theorem dX1_whyNot_48 : decode cX1_whyNot 48 = .ok (.iconst 0, 1) := by decide +kernel
theorem dX1_whyNot_49 : decode cX1_whyNot 49 = .ok (.goto 4, 3) := by decide +kernel
theorem dX1_whyNot_52 : decode cX1_whyNot 52 = .ok (.iconst 2, 1) := by decide +kernel
theorem dX1_whyNot_53 : decode cX1_whyNot 53 = .ok (.ireturn, 1) := by decide +kernel
theorem dX1_whyNot_54 : decode cX1_whyNot 54 = .ok (.aload_n 0, 1) := by decide +kernel
theorem dX1_whyNot_55 : decode cX1_whyNot 55 = .ok (.getfield 37, 3) := by decide +kernel
theorem dX1_whyNot_58 : decode cX1_whyNot 58 = .ok (.iload_n 2, 1) := by decide +kernel
theorem dX1_whyNot_59 : decode cX1_whyNot 59 = .ok (.isub, 1) := by decide +kernel
theorem dX1_whyNot_60 : decode cX1_whyNot 60 = .ok (.invokestatic 61, 3) := by decide +kernel
theorem dX1_whyNot_63 : decode cX1_whyNot 63 = .ok (.ifCond .eq 7, 3) := by decide +kernel
theorem dX1_whyNot_66 : decode cX1_whyNot 66 = .ok (.iconst 0, 1) := by decide +kernel
theorem dX1_whyNot_67 : decode cX1_whyNot 67 = .ok (.goto 4, 3) := by decide +kernel
theorem dX1_whyNot_70 : decode cX1_whyNot 70 = .ok (.iconst 2, 1) := by decide +kernel
theorem dX1_whyNot_71 : decode cX1_whyNot 71 = .ok (.ireturn, 1) := by decide +kernel
theorem dX1_whyNot_72 : decode cX1_whyNot 72 = .ok (.aload_n 0, 1) := by decide +kernel
theorem dX1_whyNot_73 : decode cX1_whyNot 73 = .ok (.getfield 40, 3) := by decide +kernel
theorem dX1_whyNot_76 : decode cX1_whyNot 76 = .ok (.bipush 99, 2) := by decide +kernel
theorem dX1_whyNot_78 : decode cX1_whyNot 78 = .ok (.if_icmp .ge 7, 3) := by decide +kernel
theorem dX1_whyNot_81 : decode cX1_whyNot 81 = .ok (.iconst 0, 1) := by decide +kernel
theorem dX1_whyNot_82 : decode cX1_whyNot 82 = .ok (.goto 4, 3) := by decide +kernel
theorem dX1_whyNot_85 : decode cX1_whyNot 85 = .ok (.iconst 5, 1) := by decide +kernel
theorem dX1_whyNot_86 : decode cX1_whyNot 86 = .ok (.ireturn, 1) := by decide +kernel
theorem dX1_whyNot_87 : decode cX1_whyNot 87 = .ok (.aload_n 0, 1) := by decide +kernel
theorem dX1_whyNot_88 : decode cX1_whyNot 88 = .ok (.iload_n 2, 1) := by decide +kernel
theorem dX1_whyNot_89 : decode cX1_whyNot 89 = .ok (.invokevirtual 47, 3) := by decide +kernel
theorem dX1_whyNot_92 : decode cX1_whyNot 92 = .ok (.ifCond .eq 12, 3) := by decide +kernel
theorem dX1_whyNot_95 : decode cX1_whyNot 95 = .ok (.aload_n 0, 1) := by decide +kernel
theorem dX1_whyNot_96 : decode cX1_whyNot 96 = .ok (.iload_n 1, 1) := by decide +kernel
theorem dX1_whyNot_97 : decode cX1_whyNot 97 = .ok (.iload_n 2, 1) := by decide +kernel
theorem dX1_whyNot_98 : decode cX1_whyNot 98 = .ok (.invokevirtual 64, 3) := by decide +kernel
theorem dX1_whyNot_101 : decode cX1_whyNot 101 = .ok (.goto 4, 3) := by decide +kernel
theorem dX1_whyNot_104 : decode cX1_whyNot 104 = .ok (.iconst 1, 1) := by decide +kernel
theorem dX1_whyNot_105 : decode cX1_whyNot 105 = .ok (.ireturn, 1) := by decide +kernel
theorem dX1_whyNotTo_0 : decode cX1_whyNotTo 0 = .ok (.aload_n 0, 1) := by decide +kernel
theorem dX1_whyNotTo_1 : decode cX1_whyNotTo 1 = .ok (.iload_n 2, 1) := by decide +kernel
theorem dX1_whyNotTo_2 : decode cX1_whyNotTo 2 = .ok (.invokevirtual 68, 3) := by decide +kernel
theorem dX1_whyNotTo_5 : decode cX1_whyNotTo 5 = .ok (.istore_n 3, 1) := by decide +kernel
theorem dX1_whyNotTo_6 : decode cX1_whyNotTo 6 = .ok (.iload_n 1, 1) := by decide +kernel
theorem dX1_whyNotTo_7 : decode cX1_whyNotTo 7 = .ok (.bipush 63, 2) := by decide +kernel
theorem dX1_whyNotTo_9 : decode cX1_whyNotTo 9 = .ok (.if_icmp .ne 14, 3) := by decide +kernel
theorem dX1_whyNotTo_12 : decode cX1_whyNotTo 12 = .ok (.aload_n 0, 1) := by decide +kernel
theorem dX1_whyNotTo_13 : decode cX1_whyNotTo 13 = .ok (.iload_n 2, 1) := by decide +kernel
theorem dX1_whyNotTo_14 : decode cX1_whyNotTo 14 = .ok (.invokevirtual 50, 3) := by decide +kernel
theorem dX1_whyNotTo_17 : decode cX1_whyNotTo 17 = .ok (.iconst 1, 1) := by decide +kernel
theorem dX1_whyNotTo_18 : decode cX1_whyNotTo 18 = .ok (.if_icmp .le 5, 3) := by decide +kernel
theorem dX1_whyNotTo_21 : decode cX1_whyNotTo 21 = .ok (.iconst 3, 1) := by decide +kernel
theorem dX1_whyNotTo_22 : decode cX1_whyNotTo 22 = .ok (.ireturn, 1) := by decide +kernel
theorem dX1_whyNotTo_23 : decode cX1_whyNotTo 23 = .ok (.iload_n 1, 1) := by decide +kernel
theorem dX1_whyNotTo_24 : decode cX1_whyNotTo 24 = .ok (.bipush 63, 2) := by decide +kernel
theorem dX1_whyNotTo_26 : decode cX1_whyNotTo 26 = .ok (.if_icmp .ne 9, 3) := by decide +kernel
theorem dX1_whyNotTo_29 : decode cX1_whyNotTo 29 = .ok (.iload_n 3, 1) := by decide +kernel
theorem dX1_whyNotTo_30 : decode cX1_whyNotTo 30 = .ok (.ifCond .ne 5, 3) := by decide +kernel
theorem dX1_whyNotTo_33 : decode cX1_whyNotTo 33 = .ok (.iconst 4, 1) := by decide +kernel
theorem dX1_whyNotTo_34 : decode cX1_whyNotTo 34 = .ok (.ireturn, 1) := by decide +kernel
theorem dX1_whyNotTo_35 : decode cX1_whyNotTo 35 = .ok (.iload_n 1, 1) := by decide +kernel
theorem dX1_whyNotTo_36 : decode cX1_whyNotTo 36 = .ok (.bipush 61, 2) := by decide +kernel
theorem dX1_whyNotTo_38 : decode cX1_whyNotTo 38 = .ok (.if_icmp .ne 11, 3) := by decide +kernel
theorem dX1_whyNotTo_41 : decode cX1_whyNotTo 41 = .ok (.iload_n 3, 1) := by decide +kernel
theorem dX1_whyNotTo_42 : decode cX1_whyNotTo 42 = .ok (.bipush 50, 2) := by decide +kernel
theorem dX1_whyNotTo_44 : decode cX1_whyNotTo 44 = .ok (.if_icmp .lt 5, 3) := by decide +kernel
theorem dX1_whyNotTo_47 : decode cX1_whyNotTo 47 = .ok (.iconst 4, 1) := by decide +kernel
theorem dX1_whyNotTo_48 : decode cX1_whyNotTo 48 = .ok (.ireturn, 1) := by decide +kernel
theorem dX1_whyNotTo_49 : decode cX1_whyNotTo 49 = .ok (.iconst 0, 1) := by decide +kernel
theorem dX1_whyNotTo_50 : decode cX1_whyNotTo 50 = .ok (.ireturn, 1) := by decide +kernel
theorem dX1_act_0 : decode cX1_act 0 = .ok (.iload_n 1, 1) := by decide +kernel
theorem dX1_act_1 : decode cX1_act 1 = .ok (.lookupswitch 173 #[(33, 156), (46, 93), (60, 80), (61, 133), (62, 67), (63, 100), (126, 141)], 67) := by decide +kernel
theorem dX1_act_68 : decode cX1_act 68 = .ok (.aload_n 0, 1) := by decide +kernel
theorem dX1_act_69 : decode cX1_act 69 = .ok (.dup, 1) := by decide +kernel
theorem dX1_act_70 : decode cX1_act 70 = .ok (.getfield 37, 3) := by decide +kernel
theorem dX1_act_73 : decode cX1_act 73 = .ok (.iload_n 2, 1) := by decide +kernel
theorem dX1_act_74 : decode cX1_act 74 = .ok (.iadd, 1) := by decide +kernel
theorem dX1_act_75 : decode cX1_act 75 = .ok (.putfield 37, 3) := by decide +kernel
theorem dX1_act_78 : decode cX1_act 78 = .ok (.goto 96, 3) := by decide +kernel
theorem dX1_act_81 : decode cX1_act 81 = .ok (.aload_n 0, 1) := by decide +kernel
theorem dX1_act_82 : decode cX1_act 82 = .ok (.dup, 1) := by decide +kernel
theorem dX1_act_83 : decode cX1_act 83 = .ok (.getfield 37, 3) := by decide +kernel
theorem dX1_act_86 : decode cX1_act 86 = .ok (.iload_n 2, 1) := by decide +kernel
theorem dX1_act_87 : decode cX1_act 87 = .ok (.isub, 1) := by decide +kernel
theorem dX1_act_88 : decode cX1_act 88 = .ok (.putfield 37, 3) := by decide +kernel
theorem dX1_act_91 : decode cX1_act 91 = .ok (.goto 83, 3) := by decide +kernel
theorem dX1_act_94 : decode cX1_act 94 = .ok (.aload_n 0, 1) := by decide +kernel
theorem dX1_act_95 : decode cX1_act 95 = .ok (.invokevirtual 71, 3) := by decide +kernel
theorem dX1_act_98 : decode cX1_act 98 = .ok (.goto 76, 3) := by decide +kernel
theorem dX1_act_101 : decode cX1_act 101 = .ok (.aload_n 0, 1) := by decide +kernel
theorem dX1_act_102 : decode cX1_act 102 = .ok (.iload_n 2, 1) := by decide +kernel
theorem dX1_act_103 : decode cX1_act 103 = .ok (.iconst 2, 1) := by decide +kernel
theorem dX1_act_104 : decode cX1_act 104 = .ok (.aload_n 0, 1) := by decide +kernel
theorem dX1_act_105 : decode cX1_act 105 = .ok (.getfield 18, 3) := by decide +kernel
theorem dX1_act_108 : decode cX1_act 108 = .ok (.imul, 1) := by decide +kernel
theorem dX1_act_109 : decode cX1_act 109 = .ok (.aload_n 0, 1) := by decide +kernel
theorem dX1_act_110 : decode cX1_act 110 = .ok (.iload_n 2, 1) := by decide +kernel
theorem dX1_act_111 : decode cX1_act 111 = .ok (.invokevirtual 54, 3) := by decide +kernel
theorem dX1_act_114 : decode cX1_act 114 = .ok (.ifCond .eq 12, 3) := by decide +kernel
theorem dX1_act_117 : decode cX1_act 117 = .ok (.iconst 3, 1) := by decide +kernel
theorem dX1_act_118 : decode cX1_act 118 = .ok (.aload_n 0, 1) := by decide +kernel
theorem dX1_act_119 : decode cX1_act 119 = .ok (.getfield 22, 3) := by decide +kernel
theorem dX1_act_122 : decode cX1_act 122 = .ok (.imul, 1) := by decide +kernel
theorem dX1_act_123 : decode cX1_act 123 = .ok (.goto 4, 3) := by decide +kernel
theorem dX1_act_126 : decode cX1_act 126 = .ok (.iconst 0, 1) := by decide +kernel
theorem dX1_act_127 : decode cX1_act 127 = .ok (.iadd, 1) := by decide +kernel
theorem dX1_act_128 : decode cX1_act 128 = .ok (.invokevirtual 74, 3) := by decide +kernel
theorem dX1_act_131 : decode cX1_act 131 = .ok (.goto 43, 3) := by decide +kernel
theorem dX1_act_134 : decode cX1_act 134 = .ok (.aload_n 0, 1) := by decide +kernel
theorem dX1_act_135 : decode cX1_act 135 = .ok (.iload_n 2, 1) := by decide +kernel
theorem dX1_act_136 : decode cX1_act 136 = .ok (.invokevirtual 78, 3) := by decide +kernel
theorem dX1_act_139 : decode cX1_act 139 = .ok (.goto 35, 3) := by decide +kernel
theorem dX1_act_142 : decode cX1_act 142 = .ok (.aload_n 0, 1) := by decide +kernel
theorem dX1_act_143 : decode cX1_act 143 = .ok (.dup, 1) := by decide +kernel
theorem dX1_act_144 : decode cX1_act 144 = .ok (.getfield 34, 3) := by decide +kernel
theorem dX1_act_147 : decode cX1_act 147 = .ok (.iconst 1, 1) := by decide +kernel
theorem dX1_act_148 : decode cX1_act 148 = .ok (.iload_n 2, 1) := by decide +kernel
theorem dX1_act_149 : decode cX1_act 149 = .ok (.ishl, 1) := by decide +kernel
theorem dX1_act_150 : decode cX1_act 150 = .ok (.ixor, 1) := by decide +kernel
theorem dX1_act_151 : decode cX1_act 151 = .ok (.putfield 34, 3) := by decide +kernel
theorem dX1_act_154 : decode cX1_act 154 = .ok (.goto 20, 3) := by decide +kernel
theorem dX1_act_157 : decode cX1_act 157 = .ok (.aload_n 0, 1) := by decide +kernel
theorem dX1_act_158 : decode cX1_act 158 = .ok (.dup, 1) := by decide +kernel
theorem dX1_act_159 : decode cX1_act 159 = .ok (.getfield 31, 3) := by decide +kernel
theorem dX1_act_162 : decode cX1_act 162 = .ok (.iconst 1, 1) := by decide +kernel
theorem dX1_act_163 : decode cX1_act 163 = .ok (.iload_n 2, 1) := by decide +kernel
theorem dX1_act_164 : decode cX1_act 164 = .ok (.ishl, 1) := by decide +kernel
theorem dX1_act_165 : decode cX1_act 165 = .ok (.iconst (-1), 1) := by decide +kernel
theorem dX1_act_166 : decode cX1_act 166 = .ok (.ixor, 1) := by decide +kernel
theorem dX1_act_167 : decode cX1_act 167 = .ok (.iand, 1) := by decide +kernel
theorem dX1_act_168 : decode cX1_act 168 = .ok (.putfield 31, 3) := by decide +kernel
theorem dX1_act_171 : decode cX1_act 171 = .ok (.goto 3, 3) := by decide +kernel
theorem dX1_act_174 : decode cX1_act 174 = .ok (.return_, 1) := by decide +kernel
theorem dX1_passHour_0 : decode cX1_passHour 0 = .ok (.iconst 0, 1) := by decide +kernel
theorem dX1_passHour_1 : decode cX1_passHour 1 = .ok (.istore_n 1, 1) := by decide +kernel
theorem dX1_passHour_2 : decode cX1_passHour 2 = .ok (.iload_n 1, 1) := by decide +kernel
theorem dX1_passHour_3 : decode cX1_passHour 3 = .ok (.bipush 8, 2) := by decide +kernel
theorem dX1_passHour_5 : decode cX1_passHour 5 = .ok (.if_icmp .ge 19, 3) := by decide +kernel
theorem dX1_passHour_8 : decode cX1_passHour 8 = .ok (.aload_n 0, 1) := by decide +kernel
theorem dX1_passHour_9 : decode cX1_passHour 9 = .ok (.iload_n 1, 1) := by decide +kernel
theorem dX1_passHour_10 : decode cX1_passHour 10 = .ok (.aload_n 0, 1) := by decide +kernel
theorem dX1_passHour_11 : decode cX1_passHour 11 = .ok (.iload_n 1, 1) := by decide +kernel
theorem dX1_passHour_12 : decode cX1_passHour 12 = .ok (.invokevirtual 82, 3) := by decide +kernel
theorem dX1_passHour_15 : decode cX1_passHour 15 = .ok (.invokevirtual 74, 3) := by decide +kernel
theorem dX1_passHour_18 : decode cX1_passHour 18 = .ok (.iinc 1 1, 3) := by decide +kernel
theorem dX1_passHour_21 : decode cX1_passHour 21 = .ok (.goto (-19), 3) := by decide +kernel
theorem dX1_passHour_24 : decode cX1_passHour 24 = .ok (.aload_n 0, 1) := by decide +kernel
theorem dX1_passHour_25 : decode cX1_passHour 25 = .ok (.dup, 1) := by decide +kernel
theorem dX1_passHour_26 : decode cX1_passHour 26 = .ok (.getfield 40, 3) := by decide +kernel
theorem dX1_passHour_29 : decode cX1_passHour 29 = .ok (.iconst 1, 1) := by decide +kernel
theorem dX1_passHour_30 : decode cX1_passHour 30 = .ok (.iadd, 1) := by decide +kernel
theorem dX1_passHour_31 : decode cX1_passHour 31 = .ok (.putfield 40, 3) := by decide +kernel
theorem dX1_passHour_34 : decode cX1_passHour 34 = .ok (.return_, 1) := by decide +kernel
theorem dX1_spoil_0 : decode cX1_spoil 0 = .ok (.iload_n 1, 1) := by decide +kernel
theorem dX1_spoil_1 : decode cX1_spoil 1 = .ok (.invokestatic 43, 3) := by decide +kernel
theorem dX1_spoil_4 : decode cX1_spoil 4 = .ok (.ifCond .eq 21, 3) := by decide +kernel
theorem dX1_spoil_7 : decode cX1_spoil 7 = .ok (.aload_n 0, 1) := by decide +kernel
theorem dX1_spoil_8 : decode cX1_spoil 8 = .ok (.getfield 15, 3) := by decide +kernel
theorem dX1_spoil_11 : decode cX1_spoil 11 = .ok (.iload_n 1, 1) := by decide +kernel
theorem dX1_spoil_12 : decode cX1_spoil 12 = .ok (.iconst 0, 1) := by decide +kernel
theorem dX1_spoil_13 : decode cX1_spoil 13 = .ok (.aload_n 0, 1) := by decide +kernel
theorem dX1_spoil_14 : decode cX1_spoil 14 = .ok (.getfield 15, 3) := by decide +kernel
theorem dX1_spoil_17 : decode cX1_spoil 17 = .ok (.iload_n 1, 1) := by decide +kernel
theorem dX1_spoil_18 : decode cX1_spoil 18 = .ok (.iaload, 1) := by decide +kernel
theorem dX1_spoil_19 : decode cX1_spoil 19 = .ok (.iload_n 2, 1) := by decide +kernel
theorem dX1_spoil_20 : decode cX1_spoil 20 = .ok (.isub, 1) := by decide +kernel
theorem dX1_spoil_21 : decode cX1_spoil 21 = .ok (.invokestatic 85, 3) := by decide +kernel
theorem dX1_spoil_24 : decode cX1_spoil 24 = .ok (.iastore, 1) := by decide +kernel
theorem dX1_spoil_25 : decode cX1_spoil 25 = .ok (.return_, 1) := by decide +kernel
theorem dX1_refill_0 : decode cX1_refill 0 = .ok (.iload_n 1, 1) := by decide +kernel
theorem dX1_refill_1 : decode cX1_refill 1 = .ok (.invokestatic 43, 3) := by decide +kernel
theorem dX1_refill_4 : decode cX1_refill 4 = .ok (.ifCond .eq 11, 3) := by decide +kernel
theorem dX1_refill_7 : decode cX1_refill 7 = .ok (.aload_n 0, 1) := by decide +kernel
theorem dX1_refill_8 : decode cX1_refill 8 = .ok (.getfield 15, 3) := by decide +kernel
theorem dX1_refill_11 : decode cX1_refill 11 = .ok (.iload_n 1, 1) := by decide +kernel
theorem dX1_refill_12 : decode cX1_refill 12 = .ok (.bipush 50, 2) := by decide +kernel
theorem dX1_refill_14 : decode cX1_refill 14 = .ok (.iastore, 1) := by decide +kernel
theorem dX1_refill_15 : decode cX1_refill 15 = .ok (.return_, 1) := by decide +kernel
theorem dX1_placesOff_0 : decode cX1_placesOff 0 = .ok (.iload_n 1, 1) := by decide +kernel
theorem dX1_placesOff_1 : decode cX1_placesOff 1 = .ok (.invokestatic 43, 3) := by decide +kernel
theorem dX1_placesOff_4 : decode cX1_placesOff 4 = .ok (.ifCond .eq 20, 3) := by decide +kernel
theorem dX1_placesOff_7 : decode cX1_placesOff 7 = .ok (.aload_n 0, 1) := by decide +kernel
theorem dX1_placesOff_8 : decode cX1_placesOff 8 = .ok (.getfield 9, 3) := by decide +kernel
theorem dX1_placesOff_11 : decode cX1_placesOff 11 = .ok (.iload_n 1, 1) := by decide +kernel
theorem dX1_placesOff_12 : decode cX1_placesOff 12 = .ok (.iaload, 1) := by decide +kernel
theorem dX1_placesOff_13 : decode cX1_placesOff 13 = .ok (.aload_n 0, 1) := by decide +kernel
theorem dX1_placesOff_14 : decode cX1_placesOff 14 = .ok (.getfield 37, 3) := by decide +kernel
theorem dX1_placesOff_17 : decode cX1_placesOff 17 = .ok (.isub, 1) := by decide +kernel
theorem dX1_placesOff_18 : decode cX1_placesOff 18 = .ok (.invokestatic 91, 3) := by decide +kernel
theorem dX1_placesOff_21 : decode cX1_placesOff 21 = .ok (.goto 5, 3) := by decide +kernel
theorem dX1_placesOff_24 : decode cX1_placesOff 24 = .ok (.bipush 16, 2) := by decide +kernel
theorem dX1_placesOff_26 : decode cX1_placesOff 26 = .ok (.ireturn, 1) := by decide +kernel
theorem dX2_init_0 : decode cX2_init 0 = .ok (.aload_n 0, 1) := by decide +kernel
theorem dX2_init_1 : decode cX2_init 1 = .ok (.invokespecial 3, 3) := by decide +kernel
theorem dX2_init_4 : decode cX2_init 4 = .ok (.aload_n 0, 1) := by decide +kernel
theorem dX2_init_5 : decode cX2_init 5 = .ok (.bipush 100, 2) := by decide +kernel
theorem dX2_init_7 : decode cX2_init 7 = .ok (.newarray .int, 2) := by decide +kernel
theorem dX2_init_9 : decode cX2_init 9 = .ok (.putfield 9, 3) := by decide +kernel
theorem dX2_init_12 : decode cX2_init 12 = .ok (.aload_n 0, 1) := by decide +kernel
theorem dX2_init_13 : decode cX2_init 13 = .ok (.bipush 46, 2) := by decide +kernel
theorem dX2_init_15 : decode cX2_init 15 = .ok (.newarray .int, 2) := by decide +kernel
theorem dX2_init_17 : decode cX2_init 17 = .ok (.putfield 15, 3) := by decide +kernel
theorem dX2_init_20 : decode cX2_init 20 = .ok (.return_, 1) := by decide +kernel
theorem dX2_gather_0 : decode cX2_gather 0 = .ok (.aload_n 0, 1) := by decide +kernel
theorem dX2_gather_1 : decode cX2_gather 1 = .ok (.iconst 0, 1) := by decide +kernel
theorem dX2_gather_2 : decode cX2_gather 2 = .ok (.putfield 18, 3) := by decide +kernel
theorem dX2_gather_5 : decode cX2_gather 5 = .ok (.iconst 0, 1) := by decide +kernel
theorem dX2_gather_6 : decode cX2_gather 6 = .ok (.istore_n 2, 1) := by decide +kernel
theorem dX2_gather_7 : decode cX2_gather 7 = .ok (.iload_n 2, 1) := by decide +kernel
theorem dX2_gather_8 : decode cX2_gather 8 = .ok (.bipush 100, 2) := by decide +kernel
theorem dX2_gather_10 : decode cX2_gather 10 = .ok (.if_icmp .ge 46, 3) := by decide +kernel
theorem dX2_gather_13 : decode cX2_gather 13 = .ok (.aload_n 0, 1) := by decide +kernel
theorem dX2_gather_14 : decode cX2_gather 14 = .ok (.getfield 18, 3) := by decide +kernel
theorem dX2_gather_17 : decode cX2_gather 17 = .ok (.bipush 100, 2) := by decide +kernel
theorem dX2_gather_19 : decode cX2_gather 19 = .ok (.if_icmp .ge 31, 3) := by decide +kernel
theorem dX2_gather_22 : decode cX2_gather 22 = .ok (.aload_n 1, 1) := by decide +kernel
theorem dX2_gather_23 : decode cX2_gather 23 = .ok (.iload_n 2, 1) := by decide +kernel
theorem dX2_gather_24 : decode cX2_gather 24 = .ok (.invokevirtual 22, 3) := by decide +kernel
theorem dX2_gather_27 : decode cX2_gather 27 = .ok (.ifCond .eq 23, 3) := by decide +kernel
theorem dX2_gather_30 : decode cX2_gather 30 = .ok (.aload_n 0, 1) := by decide +kernel
theorem dX2_gather_31 : decode cX2_gather 31 = .ok (.getfield 9, 3) := by decide +kernel
theorem dX2_gather_34 : decode cX2_gather 34 = .ok (.aload_n 0, 1) := by decide +kernel
theorem dX2_gather_35 : decode cX2_gather 35 = .ok (.getfield 18, 3) := by decide +kernel
theorem dX2_gather_38 : decode cX2_gather 38 = .ok (.iload_n 2, 1) := by decide +kernel
theorem dX2_gather_39 : decode cX2_gather 39 = .ok (.iastore, 1) := by decide +kernel
theorem dX2_gather_40 : decode cX2_gather 40 = .ok (.aload_n 0, 1) := by decide +kernel
theorem dX2_gather_41 : decode cX2_gather 41 = .ok (.dup, 1) := by decide +kernel
theorem dX2_gather_42 : decode cX2_gather 42 = .ok (.getfield 18, 3) := by decide +kernel
theorem dX2_gather_45 : decode cX2_gather 45 = .ok (.iconst 1, 1) := by decide +kernel
theorem dX2_gather_46 : decode cX2_gather 46 = .ok (.iadd, 1) := by decide +kernel
theorem dX2_gather_47 : decode cX2_gather 47 = .ok (.putfield 18, 3) := by decide +kernel
theorem dX2_gather_50 : decode cX2_gather 50 = .ok (.iinc 2 1, 3) := by decide +kernel
theorem dX2_gather_53 : decode cX2_gather 53 = .ok (.goto (-46), 3) := by decide +kernel
theorem dX2_gather_56 : decode cX2_gather 56 = .ok (.return_, 1) := by decide +kernel
theorem dX2_guessAt_0 : decode cX2_guessAt 0 = .ok (.iload_n 1, 1) := by decide +kernel
theorem dX2_guessAt_1 : decode cX2_guessAt 1 = .ok (.ifCond .lt 26, 3) := by decide +kernel
theorem dX2_guessAt_4 : decode cX2_guessAt 4 = .ok (.iload_n 1, 1) := by decide +kernel
theorem dX2_guessAt_5 : decode cX2_guessAt 5 = .ok (.aload_n 0, 1) := by decide +kernel
theorem dX2_guessAt_6 : decode cX2_guessAt 6 = .ok (.getfield 18, 3) := by decide +kernel
theorem dX2_guessAt_9 : decode cX2_guessAt 9 = .ok (.if_icmp .ge 18, 3) := by decide +kernel
theorem dX2_guessAt_12 : decode cX2_guessAt 12 = .ok (.iload_n 1, 1) := by decide +kernel
theorem dX2_guessAt_13 : decode cX2_guessAt 13 = .ok (.bipush 100, 2) := by decide +kernel
theorem dX2_guessAt_15 : decode cX2_guessAt 15 = .ok (.if_icmp .ge 12, 3) := by decide +kernel
theorem dX2_guessAt_18 : decode cX2_guessAt 18 = .ok (.aload_n 0, 1) := by decide +kernel
theorem dX2_guessAt_19 : decode cX2_guessAt 19 = .ok (.getfield 9, 3) := by decide +kernel
theorem dX2_guessAt_22 : decode cX2_guessAt 22 = .ok (.iload_n 1, 1) := by decide +kernel
theorem dX2_guessAt_23 : decode cX2_guessAt 23 = .ok (.iaload, 1) := by decide +kernel
theorem dX2_guessAt_24 : decode cX2_guessAt 24 = .ok (.goto 5, 3) := by decide +kernel
theorem dX2_guessAt_27 : decode cX2_guessAt 27 = .ok (.bipush (-6), 2) := by decide +kernel
theorem dX2_guessAt_29 : decode cX2_guessAt 29 = .ok (.ireturn, 1) := by decide +kernel
theorem dX2_bestSaucer_0 : decode cX2_bestSaucer 0 = .ok (.iconst 0, 1) := by decide +kernel
theorem dX2_bestSaucer_1 : decode cX2_bestSaucer 1 = .ok (.istore_n 1, 1) := by decide +kernel
theorem dX2_bestSaucer_2 : decode cX2_bestSaucer 2 = .ok (.iconst 0, 1) := by decide +kernel
theorem dX2_bestSaucer_3 : decode cX2_bestSaucer 3 = .ok (.istore_n 2, 1) := by decide +kernel
theorem dX2_bestSaucer_4 : decode cX2_bestSaucer 4 = .ok (.iload_n 2, 1) := by decide +kernel
theorem dX2_bestSaucer_5 : decode cX2_bestSaucer 5 = .ok (.iconst 3, 1) := by decide +kernel
theorem dX2_bestSaucer_6 : decode cX2_bestSaucer 6 = .ok (.if_icmp .gt 45, 3) := by decide +kernel
theorem dX2_bestSaucer_9 : decode cX2_bestSaucer 9 = .ok (.bipush 10, 2) := by decide +kernel
theorem dX2_bestSaucer_11 : decode cX2_bestSaucer 11 = .ok (.iload_n 2, 1) := by decide +kernel
theorem dX2_bestSaucer_12 : decode cX2_bestSaucer 12 = .ok (.imul, 1) := by decide +kernel
theorem dX2_bestSaucer_13 : decode cX2_bestSaucer 13 = .ok (.istore_n 3, 1) := by decide +kernel
theorem dX2_bestSaucer_14 : decode cX2_bestSaucer 14 = .ok (.iload_n 3, 1) := by decide +kernel
theorem dX2_bestSaucer_15 : decode cX2_bestSaucer 15 = .ok (.bipush 10, 2) := by decide +kernel
theorem dX2_bestSaucer_17 : decode cX2_bestSaucer 17 = .ok (.iload_n 2, 1) := by decide +kernel
theorem dX2_bestSaucer_18 : decode cX2_bestSaucer 18 = .ok (.imul, 1) := by decide +kernel
theorem dX2_bestSaucer_19 : decode cX2_bestSaucer 19 = .ok (.iconst 1, 1) := by decide +kernel
theorem dX2_bestSaucer_20 : decode cX2_bestSaucer 20 = .ok (.iadd, 1) := by decide +kernel
theorem dX2_bestSaucer_21 : decode cX2_bestSaucer 21 = .ok (.if_icmp .gt 24, 3) := by decide +kernel
theorem dX2_bestSaucer_24 : decode cX2_bestSaucer 24 = .ok (.aload_n 0, 1) := by decide +kernel
theorem dX2_bestSaucer_25 : decode cX2_bestSaucer 25 = .ok (.iload_n 3, 1) := by decide +kernel
theorem dX2_bestSaucer_26 : decode cX2_bestSaucer 26 = .ok (.invokevirtual 28, 3) := by decide +kernel
theorem dX2_bestSaucer_29 : decode cX2_bestSaucer 29 = .ok (.aload_n 0, 1) := by decide +kernel
theorem dX2_bestSaucer_30 : decode cX2_bestSaucer 30 = .ok (.iload_n 1, 1) := by decide +kernel
theorem dX2_bestSaucer_31 : decode cX2_bestSaucer 31 = .ok (.invokevirtual 28, 3) := by decide +kernel
theorem dX2_bestSaucer_34 : decode cX2_bestSaucer 34 = .ok (.if_icmp .ge 5, 3) := by decide +kernel
theorem dX2_bestSaucer_37 : decode cX2_bestSaucer 37 = .ok (.iload_n 3, 1) := by decide +kernel
theorem dX2_bestSaucer_38 : decode cX2_bestSaucer 38 = .ok (.istore_n 1, 1) := by decide +kernel
theorem dX2_bestSaucer_39 : decode cX2_bestSaucer 39 = .ok (.iinc 3 1, 3) := by decide +kernel
theorem dX2_bestSaucer_42 : decode cX2_bestSaucer 42 = .ok (.goto (-28), 3) := by decide +kernel
theorem dX2_bestSaucer_45 : decode cX2_bestSaucer 45 = .ok (.iinc 2 1, 3) := by decide +kernel
theorem dX2_bestSaucer_48 : decode cX2_bestSaucer 48 = .ok (.goto (-44), 3) := by decide +kernel
theorem dX2_bestSaucer_51 : decode cX2_bestSaucer 51 = .ok (.iload_n 1, 1) := by decide +kernel
theorem dX2_bestSaucer_52 : decode cX2_bestSaucer 52 = .ok (.ireturn, 1) := by decide +kernel
theorem dX2_leftAtMost_0 : decode cX2_leftAtMost 0 = .ok (.aload_n 0, 1) := by decide +kernel
theorem dX2_leftAtMost_1 : decode cX2_leftAtMost 1 = .ok (.getfield 15, 3) := by decide +kernel
theorem dX2_leftAtMost_4 : decode cX2_leftAtMost 4 = .ok (.iconst 0, 1) := by decide +kernel
theorem dX2_leftAtMost_5 : decode cX2_leftAtMost 5 = .ok (.invokestatic 32, 3) := by decide +kernel
theorem dX2_leftAtMost_8 : decode cX2_leftAtMost 8 = .ok (.iconst 0, 1) := by decide +kernel
theorem dX2_leftAtMost_9 : decode cX2_leftAtMost 9 = .ok (.istore_n 2, 1) := by decide +kernel
theorem dX2_leftAtMost_10 : decode cX2_leftAtMost 10 = .ok (.iconst 0, 1) := by decide +kernel
theorem dX2_leftAtMost_11 : decode cX2_leftAtMost 11 = .ok (.istore_n 3, 1) := by decide +kernel
theorem dX2_leftAtMost_12 : decode cX2_leftAtMost 12 = .ok (.iload_n 3, 1) := by decide +kernel
theorem dX2_leftAtMost_13 : decode cX2_leftAtMost 13 = .ok (.aload_n 0, 1) := by decide +kernel
theorem dX2_leftAtMost_14 : decode cX2_leftAtMost 14 = .ok (.getfield 18, 3) := by decide +kernel
theorem dX2_leftAtMost_17 : decode cX2_leftAtMost 17 = .ok (.if_icmp .ge 61, 3) := by decide +kernel
theorem dX2_leftAtMost_20 : decode cX2_leftAtMost 20 = .ok (.iload_n 3, 1) := by decide +kernel
theorem dX2_leftAtMost_21 : decode cX2_leftAtMost 21 = .ok (.bipush 100, 2) := by decide +kernel
theorem dX2_leftAtMost_23 : decode cX2_leftAtMost 23 = .ok (.if_icmp .ge 55, 3) := by decide +kernel
theorem dX2_leftAtMost_26 : decode cX2_leftAtMost 26 = .ok (.aload_n 0, 1) := by decide +kernel
theorem dX2_leftAtMost_27 : decode cX2_leftAtMost 27 = .ok (.getfield 9, 3) := by decide +kernel
theorem dX2_leftAtMost_30 : decode cX2_leftAtMost 30 = .ok (.iload_n 3, 1) := by decide +kernel
theorem dX2_leftAtMost_31 : decode cX2_leftAtMost 31 = .ok (.iaload, 1) := by decide +kernel
theorem dX2_leftAtMost_32 : decode cX2_leftAtMost 32 = .ok (.iload_n 1, 1) := by decide +kernel
theorem dX2_leftAtMost_33 : decode cX2_leftAtMost 33 = .ok (.invokestatic 38, 3) := by decide +kernel
theorem dX2_leftAtMost_36 : decode cX2_leftAtMost 36 = .ok (.istore 4, 2) := by decide +kernel
theorem dX2_leftAtMost_38 : decode cX2_leftAtMost 38 = .ok (.iload 4, 2) := by decide +kernel
theorem dX2_leftAtMost_40 : decode cX2_leftAtMost 40 = .ok (.iconst 0, 1) := by decide +kernel
theorem dX2_leftAtMost_41 : decode cX2_leftAtMost 41 = .ok (.bipush 45, 2) := by decide +kernel
theorem dX2_leftAtMost_43 : decode cX2_leftAtMost 43 = .ok (.invokestatic 42, 3) := by decide +kernel
theorem dX2_leftAtMost_46 : decode cX2_leftAtMost 46 = .ok (.ifCond .eq 26, 3) := by decide +kernel
theorem dX2_leftAtMost_49 : decode cX2_leftAtMost 49 = .ok (.aload_n 0, 1) := by decide +kernel
theorem dX2_leftAtMost_50 : decode cX2_leftAtMost 50 = .ok (.getfield 15, 3) := by decide +kernel
theorem dX2_leftAtMost_53 : decode cX2_leftAtMost 53 = .ok (.iload 4, 2) := by decide +kernel
theorem dX2_leftAtMost_55 : decode cX2_leftAtMost 55 = .ok (.dup2, 1) := by decide +kernel
theorem dX2_leftAtMost_56 : decode cX2_leftAtMost 56 = .ok (.iaload, 1) := by decide +kernel
theorem dX2_leftAtMost_57 : decode cX2_leftAtMost 57 = .ok (.iconst 1, 1) := by decide +kernel
theorem dX2_leftAtMost_58 : decode cX2_leftAtMost 58 = .ok (.iadd, 1) := by decide +kernel
theorem dX2_leftAtMost_59 : decode cX2_leftAtMost 59 = .ok (.iastore, 1) := by decide +kernel
theorem dX2_leftAtMost_60 : decode cX2_leftAtMost 60 = .ok (.iload_n 2, 1) := by decide +kernel
theorem dX2_leftAtMost_61 : decode cX2_leftAtMost 61 = .ok (.aload_n 0, 1) := by decide +kernel
theorem dX2_leftAtMost_62 : decode cX2_leftAtMost 62 = .ok (.getfield 15, 3) := by decide +kernel
theorem dX2_leftAtMost_65 : decode cX2_leftAtMost 65 = .ok (.iload 4, 2) := by decide +kernel
theorem dX2_leftAtMost_67 : decode cX2_leftAtMost 67 = .ok (.iaload, 1) := by decide +kernel
theorem dX2_leftAtMost_68 : decode cX2_leftAtMost 68 = .ok (.invokestatic 46, 3) := by decide +kernel
theorem dX2_leftAtMost_71 : decode cX2_leftAtMost 71 = .ok (.istore_n 2, 1) := by decide +kernel
theorem dX2_leftAtMost_72 : decode cX2_leftAtMost 72 = .ok (.iinc 3 1, 3) := by decide +kernel
theorem dX2_leftAtMost_75 : decode cX2_leftAtMost 75 = .ok (.goto (-63), 3) := by decide +kernel
theorem dX2_leftAtMost_78 : decode cX2_leftAtMost 78 = .ok (.iload_n 2, 1) := by decide +kernel
theorem dX2_leftAtMost_79 : decode cX2_leftAtMost 79 = .ok (.ireturn, 1) := by decide +kernel
theorem dX3_init_0 : decode cX3_init 0 = .ok (.aload_n 0, 1) := by decide +kernel
theorem dX3_init_1 : decode cX3_init 1 = .ok (.invokespecial 3, 3) := by decide +kernel
theorem dX3_init_4 : decode cX3_init 4 = .ok (.aload_n 0, 1) := by decide +kernel
theorem dX3_init_5 : decode cX3_init 5 = .ok (.new 9, 3) := by decide +kernel
theorem dX3_init_8 : decode cX3_init 8 = .ok (.dup, 1) := by decide +kernel
theorem dX3_init_9 : decode cX3_init 9 = .ok (.invokespecial 11, 3) := by decide +kernel
theorem dX3_init_12 : decode cX3_init 12 = .ok (.putfield 12, 3) := by decide +kernel
theorem dX3_init_15 : decode cX3_init 15 = .ok (.return_, 1) := by decide +kernel
theorem dX3_hear_0 : decode cX3_hear 0 = .ok (.aload_n 0, 1) := by decide +kernel
theorem dX3_hear_1 : decode cX3_hear 1 = .ok (.aload_n 1, 1) := by decide +kernel
theorem dX3_hear_2 : decode cX3_hear 2 = .ok (.invokevirtual 18, 3) := by decide +kernel
theorem dX3_hear_5 : decode cX3_hear 5 = .ok (.aload_n 2, 1) := by decide +kernel
theorem dX3_hear_6 : decode cX3_hear 6 = .ok (.invokevirtual 22, 3) := by decide +kernel
theorem dX3_hear_9 : decode cX3_hear 9 = .ok (.bipush (-6), 2) := by decide +kernel
theorem dX3_hear_11 : decode cX3_hear 11 = .ok (.if_icmp .eq 8, 3) := by decide +kernel
theorem dX3_hear_14 : decode cX3_hear 14 = .ok (.aload_n 0, 1) := by decide +kernel
theorem dX3_hear_15 : decode cX3_hear 15 = .ok (.iconst (-1), 1) := by decide +kernel
theorem dX3_hear_16 : decode cX3_hear 16 = .ok (.putfield 28, 3) := by decide +kernel
theorem dX3_hear_19 : decode cX3_hear 19 = .ok (.iconst 0, 1) := by decide +kernel
theorem dX3_hear_20 : decode cX3_hear 20 = .ok (.istore_n 3, 1) := by decide +kernel
theorem dX3_hear_21 : decode cX3_hear 21 = .ok (.aload_n 0, 1) := by decide +kernel
theorem dX3_hear_22 : decode cX3_hear 22 = .ok (.getfield 28, 3) := by decide +kernel
theorem dX3_hear_25 : decode cX3_hear 25 = .ok (.ifCond .ne 44, 3) := by decide +kernel
theorem dX3_hear_28 : decode cX3_hear 28 = .ok (.iload_n 3, 1) := by decide +kernel
theorem dX3_hear_29 : decode cX3_hear 29 = .ok (.aload_n 2, 1) := by decide +kernel
theorem dX3_hear_30 : decode cX3_hear 30 = .ok (.getfield 32, 3) := by decide +kernel
theorem dX3_hear_33 : decode cX3_hear 33 = .ok (.if_icmp .ge 36, 3) := by decide +kernel
theorem dX3_hear_36 : decode cX3_hear 36 = .ok (.aload_n 0, 1) := by decide +kernel
theorem dX3_hear_37 : decode cX3_hear 37 = .ok (.aload_n 2, 1) := by decide +kernel
theorem dX3_hear_38 : decode cX3_hear 38 = .ok (.iload_n 3, 1) := by decide +kernel
theorem dX3_hear_39 : decode cX3_hear 39 = .ok (.invokevirtual 35, 3) := by decide +kernel
theorem dX3_hear_42 : decode cX3_hear 42 = .ok (.aload_n 2, 1) := by decide +kernel
theorem dX3_hear_43 : decode cX3_hear 43 = .ok (.iload_n 3, 1) := by decide +kernel
theorem dX3_hear_44 : decode cX3_hear 44 = .ok (.invokevirtual 39, 3) := by decide +kernel
theorem dX3_hear_47 : decode cX3_hear 47 = .ok (.invokevirtual 43, 3) := by decide +kernel
theorem dX3_hear_50 : decode cX3_hear 50 = .ok (.iload_n 3, 1) := by decide +kernel
theorem dX3_hear_51 : decode cX3_hear 51 = .ok (.aload_n 2, 1) := by decide +kernel
theorem dX3_hear_52 : decode cX3_hear 52 = .ok (.iload_n 3, 1) := by decide +kernel
theorem dX3_hear_53 : decode cX3_hear 53 = .ok (.invokevirtual 47, 3) := by decide +kernel
theorem dX3_hear_56 : decode cX3_hear 56 = .ok (.ifCond .eq 7, 3) := by decide +kernel
theorem dX3_hear_59 : decode cX3_hear 59 = .ok (.iconst 1, 1) := by decide +kernel
theorem dX3_hear_60 : decode cX3_hear 60 = .ok (.goto 4, 3) := by decide +kernel
theorem dX3_hear_63 : decode cX3_hear 63 = .ok (.iconst 2, 1) := by decide +kernel
theorem dX3_hear_64 : decode cX3_hear 64 = .ok (.iadd, 1) := by decide +kernel
theorem dX3_hear_65 : decode cX3_hear 65 = .ok (.istore_n 3, 1) := by decide +kernel
theorem dX3_hear_66 : decode cX3_hear 66 = .ok (.goto (-45), 3) := by decide +kernel
theorem dX3_hear_69 : decode cX3_hear 69 = .ok (.return_, 1) := by decide +kernel
theorem dX3_draw_0 : decode cX3_draw 0 = .ok (.aload_n 0, 1) := by decide +kernel
theorem dX3_draw_1 : decode cX3_draw 1 = .ok (.aload_n 1, 1) := by decide +kernel
theorem dX3_draw_2 : decode cX3_draw 2 = .ok (.invokevirtual 18, 3) := by decide +kernel
theorem dX3_draw_5 : decode cX3_draw 5 = .ok (.iload_n 2, 1) := by decide +kernel
theorem dX3_draw_6 : decode cX3_draw 6 = .ok (.istore 4, 2) := by decide +kernel
theorem dX3_draw_8 : decode cX3_draw 8 = .ok (.iconst 0, 1) := by decide +kernel
theorem dX3_draw_9 : decode cX3_draw 9 = .ok (.istore 5, 2) := by decide +kernel
theorem dX3_draw_11 : decode cX3_draw 11 = .ok (.iload 5, 2) := by decide +kernel
theorem dX3_draw_13 : decode cX3_draw 13 = .ok (.iload_n 3, 1) := by decide +kernel
theorem dX3_draw_14 : decode cX3_draw 14 = .ok (.if_icmp .ge 48, 3) := by decide +kernel
theorem dX3_draw_17 : decode cX3_draw 17 = .ok (.bipush 75, 2) := by decide +kernel
theorem dX3_draw_19 : decode cX3_draw 19 = .ok (.iload 4, 2) := by decide +kernel
theorem dX3_draw_21 : decode cX3_draw 21 = .ok (.imul, 1) := by decide +kernel
theorem dX3_draw_22 : decode cX3_draw 22 = .ok (.bipush 74, 2) := by decide +kernel
theorem dX3_draw_24 : decode cX3_draw 24 = .ok (.iadd, 1) := by decide +kernel
theorem dX3_draw_25 : decode cX3_draw 25 = .ok (.ldc 51, 2) := by decide +kernel
theorem dX3_draw_27 : decode cX3_draw 27 = .ok (.irem, 1) := by decide +kernel
theorem dX3_draw_28 : decode cX3_draw 28 = .ok (.istore 4, 2) := by decide +kernel
theorem dX3_draw_30 : decode cX3_draw 30 = .ok (.iload 4, 2) := by decide +kernel
theorem dX3_draw_32 : decode cX3_draw 32 = .ok (.bipush 8, 2) := by decide +kernel
theorem dX3_draw_34 : decode cX3_draw 34 = .ok (.irem, 1) := by decide +kernel
theorem dX3_draw_35 : decode cX3_draw 35 = .ok (.invokestatic 52, 3) := by decide +kernel
theorem dX3_draw_38 : decode cX3_draw 38 = .ok (.istore 6, 2) := by decide +kernel
theorem dX3_draw_40 : decode cX3_draw 40 = .ok (.aload_n 0, 1) := by decide +kernel
theorem dX3_draw_41 : decode cX3_draw 41 = .ok (.iload 6, 2) := by decide +kernel
theorem dX3_draw_43 : decode cX3_draw 43 = .ok (.iload 6, 2) := by decide +kernel
theorem dX3_draw_45 : decode cX3_draw 45 = .ok (.iload 4, 2) := by decide +kernel
theorem dX3_draw_47 : decode cX3_draw 47 = .ok (.bipush 8, 2) := by decide +kernel
theorem dX3_draw_49 : decode cX3_draw 49 = .ok (.idiv, 1) := by decide +kernel
theorem dX3_draw_50 : decode cX3_draw 50 = .ok (.invokestatic 55, 3) := by decide +kernel
theorem dX3_draw_53 : decode cX3_draw 53 = .ok (.invokevirtual 43, 3) := by decide +kernel
theorem dX3_draw_56 : decode cX3_draw 56 = .ok (.iinc 5 1, 3) := by decide +kernel
theorem dX3_draw_59 : decode cX3_draw 59 = .ok (.goto (-48), 3) := by decide +kernel
theorem dX3_draw_62 : decode cX3_draw 62 = .ok (.return_, 1) := by decide +kernel
theorem dX3_begin_0 : decode cX3_begin 0 = .ok (.aload_n 0, 1) := by decide +kernel
theorem dX3_begin_1 : decode cX3_begin 1 = .ok (.getfield 12, 3) := by decide +kernel
theorem dX3_begin_4 : decode cX3_begin 4 = .ok (.aload_n 1, 1) := by decide +kernel
theorem dX3_begin_5 : decode cX3_begin 5 = .ok (.invokevirtual 59, 3) := by decide +kernel
theorem dX3_begin_8 : decode cX3_begin 8 = .ok (.aload_n 0, 1) := by decide +kernel
theorem dX3_begin_9 : decode cX3_begin 9 = .ok (.iconst 0, 1) := by decide +kernel
theorem dX3_begin_10 : decode cX3_begin 10 = .ok (.putfield 62, 3) := by decide +kernel
theorem dX3_begin_13 : decode cX3_begin 13 = .ok (.aload_n 0, 1) := by decide +kernel
theorem dX3_begin_14 : decode cX3_begin 14 = .ok (.iconst 0, 1) := by decide +kernel
theorem dX3_begin_15 : decode cX3_begin 15 = .ok (.putfield 28, 3) := by decide +kernel
theorem dX3_begin_18 : decode cX3_begin 18 = .ok (.aload_n 0, 1) := by decide +kernel
theorem dX3_begin_19 : decode cX3_begin 19 = .ok (.bipush (-6), 2) := by decide +kernel
theorem dX3_begin_21 : decode cX3_begin 21 = .ok (.putfield 65, 3) := by decide +kernel
theorem dX3_begin_24 : decode cX3_begin 24 = .ok (.aload_n 0, 1) := by decide +kernel
theorem dX3_begin_25 : decode cX3_begin 25 = .ok (.bipush (-6), 2) := by decide +kernel
theorem dX3_begin_27 : decode cX3_begin 27 = .ok (.putfield 68, 3) := by decide +kernel
theorem dX3_begin_30 : decode cX3_begin 30 = .ok (.return_, 1) := by decide +kernel
theorem dX3_take_0 : decode cX3_take 0 = .ok (.aload_n 0, 1) := by decide +kernel
theorem dX3_take_1 : decode cX3_take 1 = .ok (.aload_n 0, 1) := by decide +kernel
theorem dX3_take_2 : decode cX3_take 2 = .ok (.getfield 12, 3) := by decide +kernel
theorem dX3_take_5 : decode cX3_take 5 = .ok (.iload_n 1, 1) := by decide +kernel
theorem dX3_take_6 : decode cX3_take 6 = .ok (.iload_n 2, 1) := by decide +kernel
theorem dX3_take_7 : decode cX3_take 7 = .ok (.invokevirtual 71, 3) := by decide +kernel
theorem dX3_take_10 : decode cX3_take 10 = .ok (.putfield 28, 3) := by decide +kernel
theorem dX3_take_13 : decode cX3_take 13 = .ok (.aload_n 0, 1) := by decide +kernel
theorem dX3_take_14 : decode cX3_take 14 = .ok (.getfield 28, 3) := by decide +kernel
theorem dX3_take_17 : decode cX3_take 17 = .ok (.ifCond .eq 4, 3) := by decide +kernel
theorem dX3_take_20 : decode cX3_take 20 = .ok (.return_, 1) := by decide +kernel
theorem dX3_take_21 : decode cX3_take 21 = .ok (.aload_n 0, 1) := by decide +kernel
theorem dX3_take_22 : decode cX3_take 22 = .ok (.getfield 12, 3) := by decide +kernel
theorem dX3_take_25 : decode cX3_take 25 = .ok (.invokevirtual 74, 3) := by decide +kernel
theorem dX3_take_28 : decode cX3_take 28 = .ok (.istore_n 3, 1) := by decide +kernel
theorem dX3_take_29 : decode cX3_take 29 = .ok (.aload_n 0, 1) := by decide +kernel
theorem dX3_take_30 : decode cX3_take 30 = .ok (.getfield 12, 3) := by decide +kernel
theorem dX3_take_33 : decode cX3_take 33 = .ok (.iload_n 1, 1) := by decide +kernel
theorem dX3_take_34 : decode cX3_take 34 = .ok (.iload_n 2, 1) := by decide +kernel
theorem dX3_take_35 : decode cX3_take 35 = .ok (.invokevirtual 77, 3) := by decide +kernel
theorem dX3_take_38 : decode cX3_take 38 = .ok (.aload_n 0, 1) := by decide +kernel
theorem dX3_take_39 : decode cX3_take 39 = .ok (.aload_n 0, 1) := by decide +kernel
theorem dX3_take_40 : decode cX3_take 40 = .ok (.getfield 12, 3) := by decide +kernel
theorem dX3_take_43 : decode cX3_take 43 = .ok (.invokevirtual 74, 3) := by decide +kernel
theorem dX3_take_46 : decode cX3_take 46 = .ok (.iload_n 3, 1) := by decide +kernel
theorem dX3_take_47 : decode cX3_take 47 = .ok (.iconst (-1), 1) := by decide +kernel
theorem dX3_take_48 : decode cX3_take 48 = .ok (.ixor, 1) := by decide +kernel
theorem dX3_take_49 : decode cX3_take 49 = .ok (.iand, 1) := by decide +kernel
theorem dX3_take_50 : decode cX3_take 50 = .ok (.invokevirtual 80, 3) := by decide +kernel
theorem dX3_take_53 : decode cX3_take 53 = .ok (.aload_n 0, 1) := by decide +kernel
theorem dX3_take_54 : decode cX3_take 54 = .ok (.dup, 1) := by decide +kernel
theorem dX3_take_55 : decode cX3_take 55 = .ok (.getfield 62, 3) := by decide +kernel
theorem dX3_take_58 : decode cX3_take 58 = .ok (.iconst 1, 1) := by decide +kernel
theorem dX3_take_59 : decode cX3_take 59 = .ok (.iadd, 1) := by decide +kernel
theorem dX3_take_60 : decode cX3_take 60 = .ok (.putfield 62, 3) := by decide +kernel
theorem dX3_take_63 : decode cX3_take 63 = .ok (.return_, 1) := by decide +kernel
theorem dX3_noteOff_0 : decode cX3_noteOff 0 = .ok (.iload_n 1, 1) := by decide +kernel
theorem dX3_noteOff_1 : decode cX3_noteOff 1 = .ok (.ifCond .eq 12, 3) := by decide +kernel
theorem dX3_noteOff_4 : decode cX3_noteOff 4 = .ok (.aload_n 0, 1) := by decide +kernel
theorem dX3_noteOff_5 : decode cX3_noteOff 5 = .ok (.getfield 65, 3) := by decide +kernel
theorem dX3_noteOff_8 : decode cX3_noteOff 8 = .ok (.bipush (-6), 2) := by decide +kernel
theorem dX3_noteOff_10 : decode cX3_noteOff 10 = .ok (.if_icmp .eq 4, 3) := by decide +kernel
theorem dX3_noteOff_13 : decode cX3_noteOff 13 = .ok (.return_, 1) := by decide +kernel
theorem dX3_noteOff_14 : decode cX3_noteOff 14 = .ok (.aload_n 0, 1) := by decide +kernel
theorem dX3_noteOff_15 : decode cX3_noteOff 15 = .ok (.aload_n 0, 1) := by decide +kernel
theorem dX3_noteOff_16 : decode cX3_noteOff 16 = .ok (.getfield 62, 3) := by decide +kernel
theorem dX3_noteOff_19 : decode cX3_noteOff 19 = .ok (.putfield 65, 3) := by decide +kernel
theorem dX3_noteOff_22 : decode cX3_noteOff 22 = .ok (.aload_n 0, 1) := by decide +kernel
theorem dX3_noteOff_23 : decode cX3_noteOff 23 = .ok (.iload_n 1, 1) := by decide +kernel
theorem dX3_noteOff_24 : decode cX3_noteOff 24 = .ok (.invokestatic 84, 3) := by decide +kernel
theorem dX3_noteOff_27 : decode cX3_noteOff 27 = .ok (.putfield 68, 3) := by decide +kernel
theorem dX3_noteOff_30 : decode cX3_noteOff 30 = .ok (.return_, 1) := by decide +kernel
theorem dX3_drawnKind_0 : decode cX3_drawnKind 0 = .ok (.iload_n 0, 1) := by decide +kernel
theorem dX3_drawnKind_1 : decode cX3_drawnKind 1 = .ok (.tableswitch 50 0 4 #[35, 38, 41, 44, 47], 35) := by decide +kernel
theorem dX3_drawnKind_36 : decode cX3_drawnKind 36 = .ok (.bipush 62, 2) := by decide +kernel
theorem dX3_drawnKind_38 : decode cX3_drawnKind 38 = .ok (.ireturn, 1) := by decide +kernel
theorem dX3_drawnKind_39 : decode cX3_drawnKind 39 = .ok (.bipush 60, 2) := by decide +kernel
theorem dX3_drawnKind_41 : decode cX3_drawnKind 41 = .ok (.ireturn, 1) := by decide +kernel
theorem dX3_drawnKind_42 : decode cX3_drawnKind 42 = .ok (.bipush 63, 2) := by decide +kernel
theorem dX3_drawnKind_44 : decode cX3_drawnKind 44 = .ok (.ireturn, 1) := by decide +kernel
theorem dX3_drawnKind_45 : decode cX3_drawnKind 45 = .ok (.bipush 61, 2) := by decide +kernel
theorem dX3_drawnKind_47 : decode cX3_drawnKind 47 = .ok (.ireturn, 1) := by decide +kernel
theorem dX3_drawnKind_48 : decode cX3_drawnKind 48 = .ok (.bipush 126, 2) := by decide +kernel
theorem dX3_drawnKind_50 : decode cX3_drawnKind 50 = .ok (.ireturn, 1) := by decide +kernel
theorem dX3_drawnKind_51 : decode cX3_drawnKind 51 = .ok (.bipush 46, 2) := by decide +kernel
theorem dX3_drawnKind_53 : decode cX3_drawnKind 53 = .ok (.ireturn, 1) := by decide +kernel
theorem dX3_drawnNumber_0 : decode cX3_drawnNumber 0 = .ok (.iload_n 0, 1) := by decide +kernel
theorem dX3_drawnNumber_1 : decode cX3_drawnNumber 1 = .ok (.bipush 62, 2) := by decide +kernel
theorem dX3_drawnNumber_3 : decode cX3_drawnNumber 3 = .ok (.if_icmp .eq 9, 3) := by decide +kernel
theorem dX3_drawnNumber_6 : decode cX3_drawnNumber 6 = .ok (.iload_n 0, 1) := by decide +kernel
theorem dX3_drawnNumber_7 : decode cX3_drawnNumber 7 = .ok (.bipush 60, 2) := by decide +kernel
theorem dX3_drawnNumber_9 : decode cX3_drawnNumber 9 = .ok (.if_icmp .ne 12, 3) := by decide +kernel
theorem dX3_drawnNumber_12 : decode cX3_drawnNumber 12 = .ok (.iload_n 1, 1) := by decide +kernel
theorem dX3_drawnNumber_13 : decode cX3_drawnNumber 13 = .ok (.bipush 9, 2) := by decide +kernel
theorem dX3_drawnNumber_15 : decode cX3_drawnNumber 15 = .ok (.irem, 1) := by decide +kernel
theorem dX3_drawnNumber_16 : decode cX3_drawnNumber 16 = .ok (.iconst 1, 1) := by decide +kernel
theorem dX3_drawnNumber_17 : decode cX3_drawnNumber 17 = .ok (.iadd, 1) := by decide +kernel
theorem dX3_drawnNumber_18 : decode cX3_drawnNumber 18 = .ok (.goto 7, 3) := by decide +kernel
theorem dX3_drawnNumber_21 : decode cX3_drawnNumber 21 = .ok (.iload_n 1, 1) := by decide +kernel
theorem dX3_drawnNumber_22 : decode cX3_drawnNumber 22 = .ok (.bipush 8, 2) := by decide +kernel
theorem dX3_drawnNumber_24 : decode cX3_drawnNumber 24 = .ok (.irem, 1) := by decide +kernel
theorem dX3_drawnNumber_25 : decode cX3_drawnNumber 25 = .ok (.ireturn, 1) := by decide +kernel
theorem dX4_init_0 : decode cX4_init 0 = .ok (.aload_n 0, 1) := by decide +kernel
theorem dX4_init_1 : decode cX4_init 1 = .ok (.invokespecial 3, 3) := by decide +kernel
theorem dX4_init_4 : decode cX4_init 4 = .ok (.aload_n 0, 1) := by decide +kernel
theorem dX4_init_5 : decode cX4_init 5 = .ok (.bipush 60, 2) := by decide +kernel
theorem dX4_init_7 : decode cX4_init 7 = .ok (.newarray .char, 2) := by decide +kernel
theorem dX4_init_9 : decode cX4_init 9 = .ok (.putfield 9, 3) := by decide +kernel
theorem dX4_init_12 : decode cX4_init 12 = .ok (.return_, 1) := by decide +kernel
theorem dX4_write_0 : decode cX4_write 0 = .ok (.aload_n 0, 1) := by decide +kernel
theorem dX4_write_1 : decode cX4_write 1 = .ok (.getfield 15, 3) := by decide +kernel
theorem dX4_write_4 : decode cX4_write 4 = .ok (.iconst 0, 1) := by decide +kernel
theorem dX4_write_5 : decode cX4_write 5 = .ok (.bipush 59, 2) := by decide +kernel
theorem dX4_write_7 : decode cX4_write 7 = .ok (.invokestatic 19, 3) := by decide +kernel
theorem dX4_write_10 : decode cX4_write 10 = .ok (.ifCond .ne 4, 3) := by decide +kernel
theorem dX4_write_13 : decode cX4_write 13 = .ok (.return_, 1) := by decide +kernel
theorem dX4_write_14 : decode cX4_write 14 = .ok (.aload_n 0, 1) := by decide +kernel
theorem dX4_write_15 : decode cX4_write 15 = .ok (.getfield 9, 3) := by decide +kernel
theorem dX4_write_18 : decode cX4_write 18 = .ok (.aload_n 0, 1) := by decide +kernel
theorem dX4_write_19 : decode cX4_write 19 = .ok (.getfield 15, 3) := by decide +kernel
theorem dX4_write_22 : decode cX4_write 22 = .ok (.iload_n 1, 1) := by decide +kernel
theorem dX4_write_23 : decode cX4_write 23 = .ok (.castore, 1) := by decide +kernel
theorem dX4_write_24 : decode cX4_write 24 = .ok (.aload_n 0, 1) := by decide +kernel
theorem dX4_write_25 : decode cX4_write 25 = .ok (.dup, 1) := by decide +kernel
theorem dX4_write_26 : decode cX4_write 26 = .ok (.getfield 15, 3) := by decide +kernel
theorem dX4_write_29 : decode cX4_write 29 = .ok (.iconst 1, 1) := by decide +kernel
theorem dX4_write_30 : decode cX4_write 30 = .ok (.iadd, 1) := by decide +kernel
theorem dX4_write_31 : decode cX4_write 31 = .ok (.putfield 15, 3) := by decide +kernel
theorem dX4_write_34 : decode cX4_write 34 = .ok (.return_, 1) := by decide +kernel
theorem dX4_firstFault_0 : decode cX4_firstFault 0 = .ok (.iconst 0, 1) := by decide +kernel
theorem dX4_firstFault_1 : decode cX4_firstFault 1 = .ok (.istore_n 1, 1) := by decide +kernel
theorem dX4_firstFault_2 : decode cX4_firstFault 2 = .ok (.iload_n 1, 1) := by decide +kernel
theorem dX4_firstFault_3 : decode cX4_firstFault 3 = .ok (.aload_n 0, 1) := by decide +kernel
theorem dX4_firstFault_4 : decode cX4_firstFault 4 = .ok (.getfield 15, 3) := by decide +kernel
theorem dX4_firstFault_7 : decode cX4_firstFault 7 = .ok (.if_icmp .ge 78, 3) := by decide +kernel
theorem dX4_firstFault_10 : decode cX4_firstFault 10 = .ok (.aload_n 0, 1) := by decide +kernel
theorem dX4_firstFault_11 : decode cX4_firstFault 11 = .ok (.iload_n 1, 1) := by decide +kernel
theorem dX4_firstFault_12 : decode cX4_firstFault 12 = .ok (.invokevirtual 23, 3) := by decide +kernel
theorem dX4_firstFault_15 : decode cX4_firstFault 15 = .ok (.ifCond .eq 6, 3) := by decide +kernel
theorem dX4_firstFault_18 : decode cX4_firstFault 18 = .ok (.goto 48, 3) := by decide +kernel
theorem dX4_firstFault_21 : decode cX4_firstFault 21 = .ok (.aload_n 0, 1) := by decide +kernel
theorem dX4_firstFault_22 : decode cX4_firstFault 22 = .ok (.iload_n 1, 1) := by decide +kernel
theorem dX4_firstFault_23 : decode cX4_firstFault 23 = .ok (.invokevirtual 27, 3) := by decide +kernel
theorem dX4_firstFault_26 : decode cX4_firstFault 26 = .ok (.ifCond .ne 13, 3) := by decide +kernel
theorem dX4_firstFault_29 : decode cX4_firstFault 29 = .ok (.aload_n 0, 1) := by decide +kernel
theorem dX4_firstFault_30 : decode cX4_firstFault 30 = .ok (.iload_n 1, 1) := by decide +kernel
theorem dX4_firstFault_31 : decode cX4_firstFault 31 = .ok (.invokevirtual 30, 3) := by decide +kernel
theorem dX4_firstFault_34 : decode cX4_firstFault 34 = .ok (.ifCond .ne 5, 3) := by decide +kernel
theorem dX4_firstFault_37 : decode cX4_firstFault 37 = .ok (.iload_n 1, 1) := by decide +kernel
theorem dX4_firstFault_38 : decode cX4_firstFault 38 = .ok (.ireturn, 1) := by decide +kernel
theorem dX4_firstFault_39 : decode cX4_firstFault 39 = .ok (.iload_n 1, 1) := by decide +kernel
theorem dX4_firstFault_40 : decode cX4_firstFault 40 = .ok (.iconst 1, 1) := by decide +kernel
theorem dX4_firstFault_41 : decode cX4_firstFault 41 = .ok (.iadd, 1) := by decide +kernel
theorem dX4_firstFault_42 : decode cX4_firstFault 42 = .ok (.aload_n 0, 1) := by decide +kernel
theorem dX4_firstFault_43 : decode cX4_firstFault 43 = .ok (.getfield 15, 3) := by decide +kernel
theorem dX4_firstFault_46 : decode cX4_firstFault 46 = .ok (.if_icmp .ne 8, 3) := by decide +kernel
theorem dX4_firstFault_49 : decode cX4_firstFault 49 = .ok (.aload_n 0, 1) := by decide +kernel
theorem dX4_firstFault_50 : decode cX4_firstFault 50 = .ok (.getfield 15, 3) := by decide +kernel
theorem dX4_firstFault_53 : decode cX4_firstFault 53 = .ok (.ireturn, 1) := by decide +kernel
theorem dX4_firstFault_54 : decode cX4_firstFault 54 = .ok (.aload_n 0, 1) := by decide +kernel
theorem dX4_firstFault_55 : decode cX4_firstFault 55 = .ok (.iload_n 1, 1) := by decide +kernel
theorem dX4_firstFault_56 : decode cX4_firstFault 56 = .ok (.invokevirtual 33, 3) := by decide +kernel
theorem dX4_firstFault_59 : decode cX4_firstFault 59 = .ok (.ifCond .ne 7, 3) := by decide +kernel
theorem dX4_firstFault_62 : decode cX4_firstFault 62 = .ok (.iload_n 1, 1) := by decide +kernel
theorem dX4_firstFault_63 : decode cX4_firstFault 63 = .ok (.iconst 1, 1) := by decide +kernel
theorem dX4_firstFault_64 : decode cX4_firstFault 64 = .ok (.iadd, 1) := by decide +kernel
theorem dX4_firstFault_65 : decode cX4_firstFault 65 = .ok (.ireturn, 1) := by decide +kernel
theorem dX4_firstFault_66 : decode cX4_firstFault 66 = .ok (.iload_n 1, 1) := by decide +kernel
theorem dX4_firstFault_67 : decode cX4_firstFault 67 = .ok (.aload_n 0, 1) := by decide +kernel
theorem dX4_firstFault_68 : decode cX4_firstFault 68 = .ok (.iload_n 1, 1) := by decide +kernel
theorem dX4_firstFault_69 : decode cX4_firstFault 69 = .ok (.invokevirtual 23, 3) := by decide +kernel
theorem dX4_firstFault_72 : decode cX4_firstFault 72 = .ok (.ifCond .eq 7, 3) := by decide +kernel
theorem dX4_firstFault_75 : decode cX4_firstFault 75 = .ok (.iconst 1, 1) := by decide +kernel
theorem dX4_firstFault_76 : decode cX4_firstFault 76 = .ok (.goto 4, 3) := by decide +kernel
theorem dX4_firstFault_79 : decode cX4_firstFault 79 = .ok (.iconst 2, 1) := by decide +kernel
theorem dX4_firstFault_80 : decode cX4_firstFault 80 = .ok (.iadd, 1) := by decide +kernel
theorem dX4_firstFault_81 : decode cX4_firstFault 81 = .ok (.istore_n 1, 1) := by decide +kernel
theorem dX4_firstFault_82 : decode cX4_firstFault 82 = .ok (.goto (-80), 3) := by decide +kernel
theorem dX4_firstFault_85 : decode cX4_firstFault 85 = .ok (.bipush (-6), 2) := by decide +kernel
theorem dX4_firstFault_87 : decode cX4_firstFault 87 = .ok (.ireturn, 1) := by decide +kernel
theorem dX4_canFollow_0 : decode cX4_canFollow 0 = .ok (.aload_n 0, 1) := by decide +kernel
theorem dX4_canFollow_1 : decode cX4_canFollow 1 = .ok (.iload_n 1, 1) := by decide +kernel
theorem dX4_canFollow_2 : decode cX4_canFollow 2 = .ok (.iconst 1, 1) := by decide +kernel
theorem dX4_canFollow_3 : decode cX4_canFollow 3 = .ok (.iadd, 1) := by decide +kernel
theorem dX4_canFollow_4 : decode cX4_canFollow 4 = .ok (.invokevirtual 36, 3) := by decide +kernel
theorem dX4_canFollow_7 : decode cX4_canFollow 7 = .ok (.istore_n 2, 1) := by decide +kernel
theorem dX4_canFollow_8 : decode cX4_canFollow 8 = .ok (.aload_n 0, 1) := by decide +kernel
theorem dX4_canFollow_9 : decode cX4_canFollow 9 = .ok (.iload_n 1, 1) := by decide +kernel
theorem dX4_canFollow_10 : decode cX4_canFollow 10 = .ok (.invokevirtual 27, 3) := by decide +kernel
theorem dX4_canFollow_13 : decode cX4_canFollow 13 = .ok (.ifCond .eq 21, 3) := by decide +kernel
theorem dX4_canFollow_16 : decode cX4_canFollow 16 = .ok (.iload_n 2, 1) := by decide +kernel
theorem dX4_canFollow_17 : decode cX4_canFollow 17 = .ok (.bipush 49, 2) := by decide +kernel
theorem dX4_canFollow_19 : decode cX4_canFollow 19 = .ok (.if_icmp .lt 13, 3) := by decide +kernel
theorem dX4_canFollow_22 : decode cX4_canFollow 22 = .ok (.iload_n 2, 1) := by decide +kernel
theorem dX4_canFollow_23 : decode cX4_canFollow 23 = .ok (.bipush 57, 2) := by decide +kernel
theorem dX4_canFollow_25 : decode cX4_canFollow 25 = .ok (.if_icmp .gt 7, 3) := by decide +kernel
theorem dX4_canFollow_28 : decode cX4_canFollow 28 = .ok (.iconst 1, 1) := by decide +kernel
theorem dX4_canFollow_29 : decode cX4_canFollow 29 = .ok (.goto 4, 3) := by decide +kernel
theorem dX4_canFollow_32 : decode cX4_canFollow 32 = .ok (.iconst 0, 1) := by decide +kernel
theorem dX4_canFollow_33 : decode cX4_canFollow 33 = .ok (.ireturn, 1) := by decide +kernel
theorem dX4_canFollow_34 : decode cX4_canFollow 34 = .ok (.iload_n 2, 1) := by decide +kernel
theorem dX4_canFollow_35 : decode cX4_canFollow 35 = .ok (.bipush 63, 2) := by decide +kernel
theorem dX4_canFollow_37 : decode cX4_canFollow 37 = .ok (.if_icmp .eq 21, 3) := by decide +kernel
theorem dX4_canFollow_40 : decode cX4_canFollow 40 = .ok (.iload_n 2, 1) := by decide +kernel
theorem dX4_canFollow_41 : decode cX4_canFollow 41 = .ok (.bipush 61, 2) := by decide +kernel
theorem dX4_canFollow_43 : decode cX4_canFollow 43 = .ok (.if_icmp .eq 15, 3) := by decide +kernel
theorem dX4_canFollow_46 : decode cX4_canFollow 46 = .ok (.iload_n 2, 1) := by decide +kernel
theorem dX4_canFollow_47 : decode cX4_canFollow 47 = .ok (.bipush 126, 2) := by decide +kernel
theorem dX4_canFollow_49 : decode cX4_canFollow 49 = .ok (.if_icmp .eq 9, 3) := by decide +kernel
theorem dX4_canFollow_52 : decode cX4_canFollow 52 = .ok (.iload_n 2, 1) := by decide +kernel
theorem dX4_canFollow_53 : decode cX4_canFollow 53 = .ok (.bipush 33, 2) := by decide +kernel
theorem dX4_canFollow_55 : decode cX4_canFollow 55 = .ok (.if_icmp .ne 7, 3) := by decide +kernel
theorem dX4_canFollow_58 : decode cX4_canFollow 58 = .ok (.iconst 1, 1) := by decide +kernel
theorem dX4_canFollow_59 : decode cX4_canFollow 59 = .ok (.goto 4, 3) := by decide +kernel
theorem dX4_canFollow_62 : decode cX4_canFollow 62 = .ok (.iconst 0, 1) := by decide +kernel
theorem dX4_canFollow_63 : decode cX4_canFollow 63 = .ok (.ireturn, 1) := by decide +kernel
theorem dX4_kindAt_0 : decode cX4_kindAt 0 = .ok (.aload_n 0, 1) := by decide +kernel
theorem dX4_kindAt_1 : decode cX4_kindAt 1 = .ok (.iload_n 1, 1) := by decide +kernel
theorem dX4_kindAt_2 : decode cX4_kindAt 2 = .ok (.invokevirtual 30, 3) := by decide +kernel
theorem dX4_kindAt_5 : decode cX4_kindAt 5 = .ok (.ifCond .eq 13, 3) := by decide +kernel
theorem dX4_kindAt_8 : decode cX4_kindAt 8 = .ok (.aload_n 0, 1) := by decide +kernel
theorem dX4_kindAt_9 : decode cX4_kindAt 9 = .ok (.iload_n 1, 1) := by decide +kernel
theorem dX4_kindAt_10 : decode cX4_kindAt 10 = .ok (.iconst 1, 1) := by decide +kernel
theorem dX4_kindAt_11 : decode cX4_kindAt 11 = .ok (.iadd, 1) := by decide +kernel
theorem dX4_kindAt_12 : decode cX4_kindAt 12 = .ok (.invokevirtual 36, 3) := by decide +kernel
theorem dX4_kindAt_15 : decode cX4_kindAt 15 = .ok (.goto 8, 3) := by decide +kernel
theorem dX4_kindAt_18 : decode cX4_kindAt 18 = .ok (.aload_n 0, 1) := by decide +kernel
theorem dX4_kindAt_19 : decode cX4_kindAt 19 = .ok (.iload_n 1, 1) := by decide +kernel
theorem dX4_kindAt_20 : decode cX4_kindAt 20 = .ok (.invokevirtual 36, 3) := by decide +kernel
theorem dX4_kindAt_23 : decode cX4_kindAt 23 = .ok (.ireturn, 1) := by decide +kernel
theorem dX4_numberAt_0 : decode cX4_numberAt 0 = .ok (.aload_n 0, 1) := by decide +kernel
theorem dX4_numberAt_1 : decode cX4_numberAt 1 = .ok (.iload_n 1, 1) := by decide +kernel
theorem dX4_numberAt_2 : decode cX4_numberAt 2 = .ok (.invokevirtual 30, 3) := by decide +kernel
theorem dX4_numberAt_5 : decode cX4_numberAt 5 = .ok (.ifCond .eq 14, 3) := by decide +kernel
theorem dX4_numberAt_8 : decode cX4_numberAt 8 = .ok (.aload_n 0, 1) := by decide +kernel
theorem dX4_numberAt_9 : decode cX4_numberAt 9 = .ok (.iload_n 1, 1) := by decide +kernel
theorem dX4_numberAt_10 : decode cX4_numberAt 10 = .ok (.invokevirtual 36, 3) := by decide +kernel
theorem dX4_numberAt_13 : decode cX4_numberAt 13 = .ok (.bipush 65, 2) := by decide +kernel
theorem dX4_numberAt_15 : decode cX4_numberAt 15 = .ok (.isub, 1) := by decide +kernel
theorem dX4_numberAt_16 : decode cX4_numberAt 16 = .ok (.goto 13, 3) := by decide +kernel
theorem dX4_numberAt_19 : decode cX4_numberAt 19 = .ok (.aload_n 0, 1) := by decide +kernel
theorem dX4_numberAt_20 : decode cX4_numberAt 20 = .ok (.iload_n 1, 1) := by decide +kernel
theorem dX4_numberAt_21 : decode cX4_numberAt 21 = .ok (.iconst 1, 1) := by decide +kernel
theorem dX4_numberAt_22 : decode cX4_numberAt 22 = .ok (.iadd, 1) := by decide +kernel
theorem dX4_numberAt_23 : decode cX4_numberAt 23 = .ok (.invokevirtual 36, 3) := by decide +kernel
theorem dX4_numberAt_26 : decode cX4_numberAt 26 = .ok (.bipush 48, 2) := by decide +kernel
theorem dX4_numberAt_28 : decode cX4_numberAt 28 = .ok (.isub, 1) := by decide +kernel
theorem dX4_numberAt_29 : decode cX4_numberAt 29 = .ok (.ireturn, 1) := by decide +kernel
theorem dX4_isHour_0 : decode cX4_isHour 0 = .ok (.aload_n 0, 1) := by decide +kernel
theorem dX4_isHour_1 : decode cX4_isHour 1 = .ok (.iload_n 1, 1) := by decide +kernel
theorem dX4_isHour_2 : decode cX4_isHour 2 = .ok (.invokevirtual 36, 3) := by decide +kernel
theorem dX4_isHour_5 : decode cX4_isHour 5 = .ok (.bipush 46, 2) := by decide +kernel
theorem dX4_isHour_7 : decode cX4_isHour 7 = .ok (.if_icmp .ne 7, 3) := by decide +kernel
theorem dX4_isHour_10 : decode cX4_isHour 10 = .ok (.iconst 1, 1) := by decide +kernel
theorem dX4_isHour_11 : decode cX4_isHour 11 = .ok (.goto 4, 3) := by decide +kernel
theorem dX4_isHour_14 : decode cX4_isHour 14 = .ok (.iconst 0, 1) := by decide +kernel
theorem dX4_isHour_15 : decode cX4_isHour 15 = .ok (.ireturn, 1) := by decide +kernel
theorem dX4_isMove_0 : decode cX4_isMove 0 = .ok (.aload_n 0, 1) := by decide +kernel
theorem dX4_isMove_1 : decode cX4_isMove 1 = .ok (.iload_n 1, 1) := by decide +kernel
theorem dX4_isMove_2 : decode cX4_isMove 2 = .ok (.invokevirtual 36, 3) := by decide +kernel
theorem dX4_isMove_5 : decode cX4_isMove 5 = .ok (.bipush 62, 2) := by decide +kernel
theorem dX4_isMove_7 : decode cX4_isMove 7 = .ok (.if_icmp .eq 13, 3) := by decide +kernel
theorem dX4_isMove_10 : decode cX4_isMove 10 = .ok (.aload_n 0, 1) := by decide +kernel
theorem dX4_isMove_11 : decode cX4_isMove 11 = .ok (.iload_n 1, 1) := by decide +kernel
theorem dX4_isMove_12 : decode cX4_isMove 12 = .ok (.invokevirtual 36, 3) := by decide +kernel
theorem dX4_isMove_15 : decode cX4_isMove 15 = .ok (.bipush 60, 2) := by decide +kernel
theorem dX4_isMove_17 : decode cX4_isMove 17 = .ok (.if_icmp .ne 7, 3) := by decide +kernel
theorem dX4_isMove_20 : decode cX4_isMove 20 = .ok (.iconst 1, 1) := by decide +kernel
theorem dX4_isMove_21 : decode cX4_isMove 21 = .ok (.goto 4, 3) := by decide +kernel
theorem dX4_isMove_24 : decode cX4_isMove 24 = .ok (.iconst 0, 1) := by decide +kernel
theorem dX4_isMove_25 : decode cX4_isMove 25 = .ok (.ireturn, 1) := by decide +kernel
theorem dX4_isLetter_0 : decode cX4_isLetter 0 = .ok (.aload_n 0, 1) := by decide +kernel
theorem dX4_isLetter_1 : decode cX4_isLetter 1 = .ok (.iload_n 1, 1) := by decide +kernel
theorem dX4_isLetter_2 : decode cX4_isLetter 2 = .ok (.invokevirtual 36, 3) := by decide +kernel
theorem dX4_isLetter_5 : decode cX4_isLetter 5 = .ok (.bipush 65, 2) := by decide +kernel
theorem dX4_isLetter_7 : decode cX4_isLetter 7 = .ok (.isub, 1) := by decide +kernel
theorem dX4_isLetter_8 : decode cX4_isLetter 8 = .ok (.invokestatic 40, 3) := by decide +kernel
theorem dX4_isLetter_11 : decode cX4_isLetter 11 = .ok (.ireturn, 1) := by decide +kernel
theorem dX4_signAt_0 : decode cX4_signAt 0 = .ok (.iload_n 1, 1) := by decide +kernel
theorem dX4_signAt_1 : decode cX4_signAt 1 = .ok (.iconst 0, 1) := by decide +kernel
theorem dX4_signAt_2 : decode cX4_signAt 2 = .ok (.bipush 59, 2) := by decide +kernel
theorem dX4_signAt_4 : decode cX4_signAt 4 = .ok (.invokestatic 19, 3) := by decide +kernel
theorem dX4_signAt_7 : decode cX4_signAt 7 = .ok (.ifCond .eq 12, 3) := by decide +kernel
theorem dX4_signAt_10 : decode cX4_signAt 10 = .ok (.aload_n 0, 1) := by decide +kernel
theorem dX4_signAt_11 : decode cX4_signAt 11 = .ok (.getfield 9, 3) := by decide +kernel
theorem dX4_signAt_14 : decode cX4_signAt 14 = .ok (.iload_n 1, 1) := by decide +kernel
theorem dX4_signAt_15 : decode cX4_signAt 15 = .ok (.caload, 1) := by decide +kernel
theorem dX4_signAt_16 : decode cX4_signAt 16 = .ok (.goto 4, 3) := by decide +kernel
theorem dX4_signAt_19 : decode cX4_signAt 19 = .ok (.iconst 0, 1) := by decide +kernel
theorem dX4_signAt_20 : decode cX4_signAt 20 = .ok (.ireturn, 1) := by decide +kernel
theorem dX5_init_0 : decode cX5_init 0 = .ok (.aload_n 0, 1) := by decide +kernel
theorem dX5_init_1 : decode cX5_init 1 = .ok (.invokespecial 3, 3) := by decide +kernel
theorem dX5_init_4 : decode cX5_init 4 = .ok (.aload_n 0, 1) := by decide +kernel
theorem dX5_init_5 : decode cX5_init 5 = .ok (.bipush 8, 2) := by decide +kernel
theorem dX5_init_7 : decode cX5_init 7 = .ok (.newarray .int, 2) := by decide +kernel
theorem dX5_init_9 : decode cX5_init 9 = .ok (.putfield 9, 3) := by decide +kernel
theorem dX5_init_12 : decode cX5_init 12 = .ok (.aload_n 0, 1) := by decide +kernel
theorem dX5_init_13 : decode cX5_init 13 = .ok (.bipush 8, 2) := by decide +kernel
theorem dX5_init_15 : decode cX5_init 15 = .ok (.newarray .int, 2) := by decide +kernel
theorem dX5_init_17 : decode cX5_init 17 = .ok (.putfield 15, 3) := by decide +kernel
theorem dX5_init_20 : decode cX5_init 20 = .ok (.return_, 1) := by decide +kernel
theorem dX5_become_0 : decode cX5_become 0 = .ok (.aload_n 1, 1) := by decide +kernel
theorem dX5_become_1 : decode cX5_become 1 = .ok (.getfield 9, 3) := by decide +kernel
theorem dX5_become_4 : decode cX5_become 4 = .ok (.iconst 0, 1) := by decide +kernel
theorem dX5_become_5 : decode cX5_become 5 = .ok (.aload_n 0, 1) := by decide +kernel
theorem dX5_become_6 : decode cX5_become 6 = .ok (.getfield 9, 3) := by decide +kernel
theorem dX5_become_9 : decode cX5_become 9 = .ok (.iconst 0, 1) := by decide +kernel
theorem dX5_become_10 : decode cX5_become 10 = .ok (.bipush 8, 2) := by decide +kernel
theorem dX5_become_12 : decode cX5_become 12 = .ok (.invokestatic 18, 3) := by decide +kernel
theorem dX5_become_15 : decode cX5_become 15 = .ok (.aload_n 1, 1) := by decide +kernel
theorem dX5_become_16 : decode cX5_become 16 = .ok (.getfield 15, 3) := by decide +kernel
theorem dX5_become_19 : decode cX5_become 19 = .ok (.iconst 0, 1) := by decide +kernel
theorem dX5_become_20 : decode cX5_become 20 = .ok (.aload_n 0, 1) := by decide +kernel
theorem dX5_become_21 : decode cX5_become 21 = .ok (.getfield 15, 3) := by decide +kernel
theorem dX5_become_24 : decode cX5_become 24 = .ok (.iconst 0, 1) := by decide +kernel
theorem dX5_become_25 : decode cX5_become 25 = .ok (.bipush 8, 2) := by decide +kernel
theorem dX5_become_27 : decode cX5_become 27 = .ok (.invokestatic 18, 3) := by decide +kernel
theorem dX5_become_30 : decode cX5_become 30 = .ok (.aload_n 0, 1) := by decide +kernel
theorem dX5_become_31 : decode cX5_become 31 = .ok (.aload_n 1, 1) := by decide +kernel
theorem dX5_become_32 : decode cX5_become 32 = .ok (.getfield 24, 3) := by decide +kernel
theorem dX5_become_35 : decode cX5_become 35 = .ok (.putfield 24, 3) := by decide +kernel
theorem dX5_become_38 : decode cX5_become 38 = .ok (.return_, 1) := by decide +kernel
theorem dX5_keep_0 : decode cX5_keep 0 = .ok (.aload_n 0, 1) := by decide +kernel
theorem dX5_keep_1 : decode cX5_keep 1 = .ok (.getfield 24, 3) := by decide +kernel
theorem dX5_keep_4 : decode cX5_keep 4 = .ok (.iconst 0, 1) := by decide +kernel
theorem dX5_keep_5 : decode cX5_keep 5 = .ok (.bipush 7, 2) := by decide +kernel
theorem dX5_keep_7 : decode cX5_keep 7 = .ok (.invokestatic 28, 3) := by decide +kernel
theorem dX5_keep_10 : decode cX5_keep 10 = .ok (.ifCond .ne 4, 3) := by decide +kernel
theorem dX5_keep_13 : decode cX5_keep 13 = .ok (.return_, 1) := by decide +kernel
theorem dX5_keep_14 : decode cX5_keep 14 = .ok (.aload_n 0, 1) := by decide +kernel
theorem dX5_keep_15 : decode cX5_keep 15 = .ok (.getfield 9, 3) := by decide +kernel
theorem dX5_keep_18 : decode cX5_keep 18 = .ok (.aload_n 0, 1) := by decide +kernel
theorem dX5_keep_19 : decode cX5_keep 19 = .ok (.getfield 24, 3) := by decide +kernel
theorem dX5_keep_22 : decode cX5_keep 22 = .ok (.iload_n 1, 1) := by decide +kernel
theorem dX5_keep_23 : decode cX5_keep 23 = .ok (.iastore, 1) := by decide +kernel
theorem dX5_keep_24 : decode cX5_keep 24 = .ok (.aload_n 0, 1) := by decide +kernel
theorem dX5_keep_25 : decode cX5_keep 25 = .ok (.getfield 15, 3) := by decide +kernel
theorem dX5_keep_28 : decode cX5_keep 28 = .ok (.aload_n 0, 1) := by decide +kernel
theorem dX5_keep_29 : decode cX5_keep 29 = .ok (.getfield 24, 3) := by decide +kernel
theorem dX5_keep_32 : decode cX5_keep 32 = .ok (.iload_n 2, 1) := by decide +kernel
theorem dX5_keep_33 : decode cX5_keep 33 = .ok (.iastore, 1) := by decide +kernel
theorem dX5_keep_34 : decode cX5_keep 34 = .ok (.aload_n 0, 1) := by decide +kernel
theorem dX5_keep_35 : decode cX5_keep 35 = .ok (.dup, 1) := by decide +kernel
theorem dX5_keep_36 : decode cX5_keep 36 = .ok (.getfield 24, 3) := by decide +kernel
theorem dX5_keep_39 : decode cX5_keep 39 = .ok (.iconst 1, 1) := by decide +kernel
theorem dX5_keep_40 : decode cX5_keep 40 = .ok (.iadd, 1) := by decide +kernel
theorem dX5_keep_41 : decode cX5_keep 41 = .ok (.putfield 24, 3) := by decide +kernel
theorem dX5_keep_44 : decode cX5_keep 44 = .ok (.return_, 1) := by decide +kernel
theorem dX5_allowGuess_0 : decode cX5_allowGuess 0 = .ok (.iconst 0, 1) := by decide +kernel
theorem dX5_allowGuess_1 : decode cX5_allowGuess 1 = .ok (.istore_n 2, 1) := by decide +kernel
theorem dX5_allowGuess_2 : decode cX5_allowGuess 2 = .ok (.iload_n 2, 1) := by decide +kernel
theorem dX5_allowGuess_3 : decode cX5_allowGuess 3 = .ok (.aload_n 0, 1) := by decide +kernel
theorem dX5_allowGuess_4 : decode cX5_allowGuess 4 = .ok (.getfield 24, 3) := by decide +kernel
theorem dX5_allowGuess_7 : decode cX5_allowGuess 7 = .ok (.if_icmp .ge 36, 3) := by decide +kernel
theorem dX5_allowGuess_10 : decode cX5_allowGuess 10 = .ok (.iload_n 2, 1) := by decide +kernel
theorem dX5_allowGuess_11 : decode cX5_allowGuess 11 = .ok (.bipush 8, 2) := by decide +kernel
theorem dX5_allowGuess_13 : decode cX5_allowGuess 13 = .ok (.if_icmp .ge 30, 3) := by decide +kernel
theorem dX5_allowGuess_16 : decode cX5_allowGuess 16 = .ok (.iload_n 1, 1) := by decide +kernel
theorem dX5_allowGuess_17 : decode cX5_allowGuess 17 = .ok (.aload_n 0, 1) := by decide +kernel
theorem dX5_allowGuess_18 : decode cX5_allowGuess 18 = .ok (.getfield 9, 3) := by decide +kernel
theorem dX5_allowGuess_21 : decode cX5_allowGuess 21 = .ok (.iload_n 2, 1) := by decide +kernel
theorem dX5_allowGuess_22 : decode cX5_allowGuess 22 = .ok (.iaload, 1) := by decide +kernel
theorem dX5_allowGuess_23 : decode cX5_allowGuess 23 = .ok (.invokestatic 32, 3) := by decide +kernel
theorem dX5_allowGuess_26 : decode cX5_allowGuess 26 = .ok (.aload_n 0, 1) := by decide +kernel
theorem dX5_allowGuess_27 : decode cX5_allowGuess 27 = .ok (.getfield 15, 3) := by decide +kernel
theorem dX5_allowGuess_30 : decode cX5_allowGuess 30 = .ok (.iload_n 2, 1) := by decide +kernel
theorem dX5_allowGuess_31 : decode cX5_allowGuess 31 = .ok (.iaload, 1) := by decide +kernel
theorem dX5_allowGuess_32 : decode cX5_allowGuess 32 = .ok (.if_icmp .eq 5, 3) := by decide +kernel
theorem dX5_allowGuess_35 : decode cX5_allowGuess 35 = .ok (.iconst 0, 1) := by decide +kernel
theorem dX5_allowGuess_36 : decode cX5_allowGuess 36 = .ok (.ireturn, 1) := by decide +kernel
theorem dX5_allowGuess_37 : decode cX5_allowGuess 37 = .ok (.iinc 2 1, 3) := by decide +kernel
theorem dX5_allowGuess_40 : decode cX5_allowGuess 40 = .ok (.goto (-38), 3) := by decide +kernel
theorem dX5_allowGuess_43 : decode cX5_allowGuess 43 = .ok (.iconst 1, 1) := by decide +kernel
theorem dX5_allowGuess_44 : decode cX5_allowGuess 44 = .ok (.ireturn, 1) := by decide +kernel
theorem dX5_lossIf_0 : decode cX5_lossIf 0 = .ok (.iload_n 1, 1) := by decide +kernel
theorem dX5_lossIf_1 : decode cX5_lossIf 1 = .ok (.bipush 10, 2) := by decide +kernel
theorem dX5_lossIf_3 : decode cX5_lossIf 3 = .ok (.idiv, 1) := by decide +kernel
theorem dX5_lossIf_4 : decode cX5_lossIf 4 = .ok (.iload_n 1, 1) := by decide +kernel
theorem dX5_lossIf_5 : decode cX5_lossIf 5 = .ok (.bipush 10, 2) := by decide +kernel
theorem dX5_lossIf_7 : decode cX5_lossIf 7 = .ok (.irem, 1) := by decide +kernel
theorem dX5_lossIf_8 : decode cX5_lossIf 8 = .ok (.iconst 1, 1) := by decide +kernel
theorem dX5_lossIf_9 : decode cX5_lossIf 9 = .ok (.if_icmp .ne 7, 3) := by decide +kernel
theorem dX5_lossIf_12 : decode cX5_lossIf 12 = .ok (.iconst 1, 1) := by decide +kernel
theorem dX5_lossIf_13 : decode cX5_lossIf 13 = .ok (.goto 4, 3) := by decide +kernel
theorem dX5_lossIf_16 : decode cX5_lossIf 16 = .ok (.iconst 0, 1) := by decide +kernel
theorem dX5_lossIf_17 : decode cX5_lossIf 17 = .ok (.iload_n 0, 1) := by decide +kernel
theorem dX5_lossIf_18 : decode cX5_lossIf 18 = .ok (.bipush 10, 2) := by decide +kernel
theorem dX5_lossIf_20 : decode cX5_lossIf 20 = .ok (.idiv, 1) := by decide +kernel
theorem dX5_lossIf_21 : decode cX5_lossIf 21 = .ok (.iload_n 0, 1) := by decide +kernel
theorem dX5_lossIf_22 : decode cX5_lossIf 22 = .ok (.bipush 10, 2) := by decide +kernel
theorem dX5_lossIf_24 : decode cX5_lossIf 24 = .ok (.irem, 1) := by decide +kernel
theorem dX5_lossIf_25 : decode cX5_lossIf 25 = .ok (.invokestatic 36, 3) := by decide +kernel
theorem dX5_lossIf_28 : decode cX5_lossIf 28 = .ok (.ireturn, 1) := by decide +kernel
theorem dX6_init_0 : decode cX6_init 0 = .ok (.aload_n 0, 1) := by decide +kernel
theorem dX6_init_1 : decode cX6_init 1 = .ok (.invokespecial 3, 3) := by decide +kernel
theorem dX6_init_4 : decode cX6_init 4 = .ok (.aload_n 0, 1) := by decide +kernel
theorem dX6_init_5 : decode cX6_init 5 = .ok (.bipush 12, 2) := by decide +kernel
theorem dX6_init_7 : decode cX6_init 7 = .ok (.newarray .int, 2) := by decide +kernel
theorem dX6_init_9 : decode cX6_init 9 = .ok (.putfield 9, 3) := by decide +kernel
theorem dX6_init_12 : decode cX6_init 12 = .ok (.return_, 1) := by decide +kernel
theorem dX6_become_0 : decode cX6_become 0 = .ok (.aload_n 1, 1) := by decide +kernel
theorem dX6_become_1 : decode cX6_become 1 = .ok (.getfield 9, 3) := by decide +kernel
theorem dX6_become_4 : decode cX6_become 4 = .ok (.iconst 0, 1) := by decide +kernel
theorem dX6_become_5 : decode cX6_become 5 = .ok (.aload_n 0, 1) := by decide +kernel
theorem dX6_become_6 : decode cX6_become 6 = .ok (.getfield 9, 3) := by decide +kernel
theorem dX6_become_9 : decode cX6_become 9 = .ok (.iconst 0, 1) := by decide +kernel
theorem dX6_become_10 : decode cX6_become 10 = .ok (.bipush 12, 2) := by decide +kernel
theorem dX6_become_12 : decode cX6_become 12 = .ok (.invokestatic 15, 3) := by decide +kernel
theorem dX6_become_15 : decode cX6_become 15 = .ok (.aload_n 0, 1) := by decide +kernel
theorem dX6_become_16 : decode cX6_become 16 = .ok (.aload_n 1, 1) := by decide +kernel
theorem dX6_become_17 : decode cX6_become 17 = .ok (.getfield 21, 3) := by decide +kernel
theorem dX6_become_20 : decode cX6_become 20 = .ok (.putfield 21, 3) := by decide +kernel
theorem dX6_become_23 : decode cX6_become 23 = .ok (.return_, 1) := by decide +kernel
theorem dX6_lead_0 : decode cX6_lead 0 = .ok (.iload_n 1, 1) := by decide +kernel
theorem dX6_lead_1 : decode cX6_lead 1 = .ok (.invokestatic 25, 3) := by decide +kernel
theorem dX6_lead_4 : decode cX6_lead 4 = .ok (.ifCond .eq 10, 3) := by decide +kernel
theorem dX6_lead_7 : decode cX6_lead 7 = .ok (.iload_n 2, 1) := by decide +kernel
theorem dX6_lead_8 : decode cX6_lead 8 = .ok (.invokestatic 25, 3) := by decide +kernel
theorem dX6_lead_11 : decode cX6_lead 11 = .ok (.ifCond .ne 4, 3) := by decide +kernel
theorem dX6_lead_14 : decode cX6_lead 14 = .ok (.return_, 1) := by decide +kernel
theorem dX6_lead_15 : decode cX6_lead 15 = .ok (.aload_n 0, 1) := by decide +kernel
theorem dX6_lead_16 : decode cX6_lead 16 = .ok (.getfield 9, 3) := by decide +kernel
theorem dX6_lead_19 : decode cX6_lead 19 = .ok (.iload_n 1, 1) := by decide +kernel
theorem dX6_lead_20 : decode cX6_lead 20 = .ok (.iload_n 3, 1) := by decide +kernel
theorem dX6_lead_21 : decode cX6_lead 21 = .ok (.ifCond .eq 16, 3) := by decide +kernel
theorem dX6_lead_24 : decode cX6_lead 24 = .ok (.aload_n 0, 1) := by decide +kernel
theorem dX6_lead_25 : decode cX6_lead 25 = .ok (.getfield 9, 3) := by decide +kernel
theorem dX6_lead_28 : decode cX6_lead 28 = .ok (.iload_n 1, 1) := by decide +kernel
theorem dX6_lead_29 : decode cX6_lead 29 = .ok (.iaload, 1) := by decide +kernel
theorem dX6_lead_30 : decode cX6_lead 30 = .ok (.iconst 1, 1) := by decide +kernel
theorem dX6_lead_31 : decode cX6_lead 31 = .ok (.iload_n 2, 1) := by decide +kernel
theorem dX6_lead_32 : decode cX6_lead 32 = .ok (.ishl, 1) := by decide +kernel
theorem dX6_lead_33 : decode cX6_lead 33 = .ok (.ior, 1) := by decide +kernel
theorem dX6_lead_34 : decode cX6_lead 34 = .ok (.goto 15, 3) := by decide +kernel
theorem dX6_lead_37 : decode cX6_lead 37 = .ok (.aload_n 0, 1) := by decide +kernel
theorem dX6_lead_38 : decode cX6_lead 38 = .ok (.getfield 9, 3) := by decide +kernel
theorem dX6_lead_41 : decode cX6_lead 41 = .ok (.iload_n 1, 1) := by decide +kernel
theorem dX6_lead_42 : decode cX6_lead 42 = .ok (.iaload, 1) := by decide +kernel
theorem dX6_lead_43 : decode cX6_lead 43 = .ok (.iconst 1, 1) := by decide +kernel
theorem dX6_lead_44 : decode cX6_lead 44 = .ok (.iload_n 2, 1) := by decide +kernel
theorem dX6_lead_45 : decode cX6_lead 45 = .ok (.ishl, 1) := by decide +kernel
theorem dX6_lead_46 : decode cX6_lead 46 = .ok (.iconst (-1), 1) := by decide +kernel
theorem dX6_lead_47 : decode cX6_lead 47 = .ok (.ixor, 1) := by decide +kernel
theorem dX6_lead_48 : decode cX6_lead 48 = .ok (.iand, 1) := by decide +kernel
theorem dX6_lead_49 : decode cX6_lead 49 = .ok (.iastore, 1) := by decide +kernel
theorem dX6_lead_50 : decode cX6_lead 50 = .ok (.aload_n 0, 1) := by decide +kernel
theorem dX6_lead_51 : decode cX6_lead 51 = .ok (.getfield 9, 3) := by decide +kernel
theorem dX6_lead_54 : decode cX6_lead 54 = .ok (.iload_n 2, 1) := by decide +kernel
theorem dX6_lead_55 : decode cX6_lead 55 = .ok (.iload_n 3, 1) := by decide +kernel
theorem dX6_lead_56 : decode cX6_lead 56 = .ok (.ifCond .eq 16, 3) := by decide +kernel
theorem dX6_lead_59 : decode cX6_lead 59 = .ok (.aload_n 0, 1) := by decide +kernel
theorem dX6_lead_60 : decode cX6_lead 60 = .ok (.getfield 9, 3) := by decide +kernel
theorem dX6_lead_63 : decode cX6_lead 63 = .ok (.iload_n 2, 1) := by decide +kernel
theorem dX6_lead_64 : decode cX6_lead 64 = .ok (.iaload, 1) := by decide +kernel
theorem dX6_lead_65 : decode cX6_lead 65 = .ok (.iconst 1, 1) := by decide +kernel
theorem dX6_lead_66 : decode cX6_lead 66 = .ok (.iload_n 1, 1) := by decide +kernel
theorem dX6_lead_67 : decode cX6_lead 67 = .ok (.ishl, 1) := by decide +kernel
theorem dX6_lead_68 : decode cX6_lead 68 = .ok (.ior, 1) := by decide +kernel
theorem dX6_lead_69 : decode cX6_lead 69 = .ok (.goto 15, 3) := by decide +kernel
theorem dX6_lead_72 : decode cX6_lead 72 = .ok (.aload_n 0, 1) := by decide +kernel
theorem dX6_lead_73 : decode cX6_lead 73 = .ok (.getfield 9, 3) := by decide +kernel
theorem dX6_lead_76 : decode cX6_lead 76 = .ok (.iload_n 2, 1) := by decide +kernel
theorem dX6_lead_77 : decode cX6_lead 77 = .ok (.iaload, 1) := by decide +kernel
theorem dX6_lead_78 : decode cX6_lead 78 = .ok (.iconst 1, 1) := by decide +kernel
theorem dX6_lead_79 : decode cX6_lead 79 = .ok (.iload_n 1, 1) := by decide +kernel
theorem dX6_lead_80 : decode cX6_lead 80 = .ok (.ishl, 1) := by decide +kernel
theorem dX6_lead_81 : decode cX6_lead 81 = .ok (.iconst (-1), 1) := by decide +kernel
theorem dX6_lead_82 : decode cX6_lead 82 = .ok (.ixor, 1) := by decide +kernel
theorem dX6_lead_83 : decode cX6_lead 83 = .ok (.iand, 1) := by decide +kernel
theorem dX6_lead_84 : decode cX6_lead 84 = .ok (.iastore, 1) := by decide +kernel
theorem dX6_lead_85 : decode cX6_lead 85 = .ok (.return_, 1) := by decide +kernel
theorem dX6_countWays_0 : decode cX6_countWays 0 = .ok (.iconst 0, 1) := by decide +kernel
theorem dX6_countWays_1 : decode cX6_countWays 1 = .ok (.istore_n 1, 1) := by decide +kernel
theorem dX6_countWays_2 : decode cX6_countWays 2 = .ok (.iconst 0, 1) := by decide +kernel
theorem dX6_countWays_3 : decode cX6_countWays 3 = .ok (.istore_n 2, 1) := by decide +kernel
theorem dX6_countWays_4 : decode cX6_countWays 4 = .ok (.iload_n 2, 1) := by decide +kernel
theorem dX6_countWays_5 : decode cX6_countWays 5 = .ok (.bipush 12, 2) := by decide +kernel
theorem dX6_countWays_7 : decode cX6_countWays 7 = .ok (.if_icmp .ge 21, 3) := by decide +kernel
theorem dX6_countWays_10 : decode cX6_countWays 10 = .ok (.iload_n 1, 1) := by decide +kernel
theorem dX6_countWays_11 : decode cX6_countWays 11 = .ok (.aload_n 0, 1) := by decide +kernel
theorem dX6_countWays_12 : decode cX6_countWays 12 = .ok (.getfield 9, 3) := by decide +kernel
theorem dX6_countWays_15 : decode cX6_countWays 15 = .ok (.iload_n 2, 1) := by decide +kernel
theorem dX6_countWays_16 : decode cX6_countWays 16 = .ok (.iaload, 1) := by decide +kernel
theorem dX6_countWays_17 : decode cX6_countWays 17 = .ok (.invokestatic 29, 3) := by decide +kernel
theorem dX6_countWays_20 : decode cX6_countWays 20 = .ok (.iadd, 1) := by decide +kernel
theorem dX6_countWays_21 : decode cX6_countWays 21 = .ok (.istore_n 1, 1) := by decide +kernel
theorem dX6_countWays_22 : decode cX6_countWays 22 = .ok (.iinc 2 1, 3) := by decide +kernel
theorem dX6_countWays_25 : decode cX6_countWays 25 = .ok (.goto (-21), 3) := by decide +kernel
theorem dX6_countWays_28 : decode cX6_countWays 28 = .ok (.iload_n 1, 1) := by decide +kernel
theorem dX6_countWays_29 : decode cX6_countWays 29 = .ok (.iconst 2, 1) := by decide +kernel
theorem dX6_countWays_30 : decode cX6_countWays 30 = .ok (.idiv, 1) := by decide +kernel
theorem dX6_countWays_31 : decode cX6_countWays 31 = .ok (.ireturn, 1) := by decide +kernel
theorem dX6_waysFrom_0 : decode cX6_waysFrom 0 = .ok (.iload_n 1, 1) := by decide +kernel
theorem dX6_waysFrom_1 : decode cX6_waysFrom 1 = .ok (.invokestatic 25, 3) := by decide +kernel
theorem dX6_waysFrom_4 : decode cX6_waysFrom 4 = .ok (.ifCond .eq 12, 3) := by decide +kernel
theorem dX6_waysFrom_7 : decode cX6_waysFrom 7 = .ok (.aload_n 0, 1) := by decide +kernel
theorem dX6_waysFrom_8 : decode cX6_waysFrom 8 = .ok (.getfield 9, 3) := by decide +kernel
theorem dX6_waysFrom_11 : decode cX6_waysFrom 11 = .ok (.iload_n 1, 1) := by decide +kernel
theorem dX6_waysFrom_12 : decode cX6_waysFrom 12 = .ok (.iaload, 1) := by decide +kernel
theorem dX6_waysFrom_13 : decode cX6_waysFrom 13 = .ok (.goto 4, 3) := by decide +kernel
theorem dX6_waysFrom_16 : decode cX6_waysFrom 16 = .ok (.iconst 0, 1) := by decide +kernel
theorem dX6_waysFrom_17 : decode cX6_waysFrom 17 = .ok (.ireturn, 1) := by decide +kernel
theorem dX6_safeCells_0 : decode cX6_safeCells 0 = .ok (.sipush 4095, 3) := by decide +kernel
theorem dX6_safeCells_3 : decode cX6_safeCells 3 = .ok (.iload_n 1, 1) := by decide +kernel
theorem dX6_safeCells_4 : decode cX6_safeCells 4 = .ok (.aload_n 0, 1) := by decide +kernel
theorem dX6_safeCells_5 : decode cX6_safeCells 5 = .ok (.iload_n 1, 1) := by decide +kernel
theorem dX6_safeCells_6 : decode cX6_safeCells 6 = .ok (.invokevirtual 35, 3) := by decide +kernel
theorem dX6_safeCells_9 : decode cX6_safeCells 9 = .ok (.ior, 1) := by decide +kernel
theorem dX6_safeCells_10 : decode cX6_safeCells 10 = .ok (.iconst (-1), 1) := by decide +kernel
theorem dX6_safeCells_11 : decode cX6_safeCells 11 = .ok (.ixor, 1) := by decide +kernel
theorem dX6_safeCells_12 : decode cX6_safeCells 12 = .ok (.iand, 1) := by decide +kernel
theorem dX6_safeCells_13 : decode cX6_safeCells 13 = .ok (.ireturn, 1) := by decide +kernel
theorem dX6_besideAny_0 : decode cX6_besideAny 0 = .ok (.iconst 0, 1) := by decide +kernel
theorem dX6_besideAny_1 : decode cX6_besideAny 1 = .ok (.istore_n 2, 1) := by decide +kernel
theorem dX6_besideAny_2 : decode cX6_besideAny 2 = .ok (.iconst 0, 1) := by decide +kernel
theorem dX6_besideAny_3 : decode cX6_besideAny 3 = .ok (.istore_n 3, 1) := by decide +kernel
theorem dX6_besideAny_4 : decode cX6_besideAny 4 = .ok (.iload_n 3, 1) := by decide +kernel
theorem dX6_besideAny_5 : decode cX6_besideAny 5 = .ok (.bipush 12, 2) := by decide +kernel
theorem dX6_besideAny_7 : decode cX6_besideAny 7 = .ok (.if_icmp .ge 27, 3) := by decide +kernel
theorem dX6_besideAny_10 : decode cX6_besideAny 10 = .ok (.iload_n 1, 1) := by decide +kernel
theorem dX6_besideAny_11 : decode cX6_besideAny 11 = .ok (.iload_n 3, 1) := by decide +kernel
theorem dX6_besideAny_12 : decode cX6_besideAny 12 = .ok (.ishr, 1) := by decide +kernel
theorem dX6_besideAny_13 : decode cX6_besideAny 13 = .ok (.iconst 1, 1) := by decide +kernel
theorem dX6_besideAny_14 : decode cX6_besideAny 14 = .ok (.iand, 1) := by decide +kernel
theorem dX6_besideAny_15 : decode cX6_besideAny 15 = .ok (.iconst 1, 1) := by decide +kernel
theorem dX6_besideAny_16 : decode cX6_besideAny 16 = .ok (.if_icmp .ne 12, 3) := by decide +kernel
theorem dX6_besideAny_19 : decode cX6_besideAny 19 = .ok (.iload_n 2, 1) := by decide +kernel
theorem dX6_besideAny_20 : decode cX6_besideAny 20 = .ok (.aload_n 0, 1) := by decide +kernel
theorem dX6_besideAny_21 : decode cX6_besideAny 21 = .ok (.getfield 9, 3) := by decide +kernel
theorem dX6_besideAny_24 : decode cX6_besideAny 24 = .ok (.iload_n 3, 1) := by decide +kernel
theorem dX6_besideAny_25 : decode cX6_besideAny 25 = .ok (.iaload, 1) := by decide +kernel
theorem dX6_besideAny_26 : decode cX6_besideAny 26 = .ok (.ior, 1) := by decide +kernel
theorem dX6_besideAny_27 : decode cX6_besideAny 27 = .ok (.istore_n 2, 1) := by decide +kernel
theorem dX6_besideAny_28 : decode cX6_besideAny 28 = .ok (.iinc 3 1, 3) := by decide +kernel
theorem dX6_besideAny_31 : decode cX6_besideAny 31 = .ok (.goto (-27), 3) := by decide +kernel
theorem dX6_besideAny_34 : decode cX6_besideAny 34 = .ok (.iload_n 2, 1) := by decide +kernel
theorem dX6_besideAny_35 : decode cX6_besideAny 35 = .ok (.ireturn, 1) := by decide +kernel
theorem dX6_steps_0 : decode cX6_steps 0 = .ok (.iconst 1, 1) := by decide +kernel
theorem dX6_steps_1 : decode cX6_steps 1 = .ok (.iload_n 1, 1) := by decide +kernel
theorem dX6_steps_2 : decode cX6_steps 2 = .ok (.ishl, 1) := by decide +kernel
theorem dX6_steps_3 : decode cX6_steps 3 = .ok (.iload_n 3, 1) := by decide +kernel
theorem dX6_steps_4 : decode cX6_steps 4 = .ok (.iand, 1) := by decide +kernel
theorem dX6_steps_5 : decode cX6_steps 5 = .ok (.istore 4, 2) := by decide +kernel
theorem dX6_steps_7 : decode cX6_steps 7 = .ok (.iconst 0, 1) := by decide +kernel
theorem dX6_steps_8 : decode cX6_steps 8 = .ok (.istore 5, 2) := by decide +kernel
theorem dX6_steps_10 : decode cX6_steps 10 = .ok (.iload 5, 2) := by decide +kernel
theorem dX6_steps_12 : decode cX6_steps 12 = .ok (.bipush 12, 2) := by decide +kernel
theorem dX6_steps_14 : decode cX6_steps 14 = .ok (.if_icmp .ge 49, 3) := by decide +kernel
theorem dX6_steps_17 : decode cX6_steps 17 = .ok (.iload 4, 2) := by decide +kernel
theorem dX6_steps_19 : decode cX6_steps 19 = .ok (.iload_n 2, 1) := by decide +kernel
theorem dX6_steps_20 : decode cX6_steps 20 = .ok (.ishr, 1) := by decide +kernel
theorem dX6_steps_21 : decode cX6_steps 21 = .ok (.iconst 1, 1) := by decide +kernel
theorem dX6_steps_22 : decode cX6_steps 22 = .ok (.iand, 1) := by decide +kernel
theorem dX6_steps_23 : decode cX6_steps 23 = .ok (.iconst 1, 1) := by decide +kernel
theorem dX6_steps_24 : decode cX6_steps 24 = .ok (.if_icmp .ne 6, 3) := by decide +kernel
theorem dX6_steps_27 : decode cX6_steps 27 = .ok (.iload 5, 2) := by decide +kernel
theorem dX6_steps_29 : decode cX6_steps 29 = .ok (.ireturn, 1) := by decide +kernel
theorem dX6_steps_30 : decode cX6_steps 30 = .ok (.iload 4, 2) := by decide +kernel
theorem dX6_steps_32 : decode cX6_steps 32 = .ok (.aload_n 0, 1) := by decide +kernel
theorem dX6_steps_33 : decode cX6_steps 33 = .ok (.iload 4, 2) := by decide +kernel
theorem dX6_steps_35 : decode cX6_steps 35 = .ok (.invokevirtual 35, 3) := by decide +kernel
theorem dX6_steps_38 : decode cX6_steps 38 = .ok (.iload_n 3, 1) := by decide +kernel
theorem dX6_steps_39 : decode cX6_steps 39 = .ok (.iand, 1) := by decide +kernel
theorem dX6_steps_40 : decode cX6_steps 40 = .ok (.ior, 1) := by decide +kernel
theorem dX6_steps_41 : decode cX6_steps 41 = .ok (.istore 6, 2) := by decide +kernel
theorem dX6_steps_43 : decode cX6_steps 43 = .ok (.iload 6, 2) := by decide +kernel
theorem dX6_steps_45 : decode cX6_steps 45 = .ok (.iload 4, 2) := by decide +kernel
theorem dX6_steps_47 : decode cX6_steps 47 = .ok (.if_icmp .ne 6, 3) := by decide +kernel
theorem dX6_steps_50 : decode cX6_steps 50 = .ok (.bipush (-6), 2) := by decide +kernel
theorem dX6_steps_52 : decode cX6_steps 52 = .ok (.ireturn, 1) := by decide +kernel
theorem dX6_steps_53 : decode cX6_steps 53 = .ok (.iload 6, 2) := by decide +kernel
theorem dX6_steps_55 : decode cX6_steps 55 = .ok (.istore 4, 2) := by decide +kernel
theorem dX6_steps_57 : decode cX6_steps 57 = .ok (.iinc 5 1, 3) := by decide +kernel
theorem dX6_steps_60 : decode cX6_steps 60 = .ok (.goto (-50), 3) := by decide +kernel
theorem dX6_steps_63 : decode cX6_steps 63 = .ok (.bipush (-6), 2) := by decide +kernel
theorem dX6_steps_65 : decode cX6_steps 65 = .ok (.ireturn, 1) := by decide +kernel
theorem dX6_firstCell_0 : decode cX6_firstCell 0 = .ok (.aload_n 0, 1) := by decide +kernel
theorem dX6_firstCell_1 : decode cX6_firstCell 1 = .ok (.iload_n 1, 1) := by decide +kernel
theorem dX6_firstCell_2 : decode cX6_firstCell 2 = .ok (.iload_n 2, 1) := by decide +kernel
theorem dX6_firstCell_3 : decode cX6_firstCell 3 = .ok (.iload_n 3, 1) := by decide +kernel
theorem dX6_firstCell_4 : decode cX6_firstCell 4 = .ok (.invokevirtual 38, 3) := by decide +kernel
theorem dX6_firstCell_7 : decode cX6_firstCell 7 = .ok (.istore 4, 2) := by decide +kernel
theorem dX6_firstCell_9 : decode cX6_firstCell 9 = .ok (.iload 4, 2) := by decide +kernel
theorem dX6_firstCell_11 : decode cX6_firstCell 11 = .ok (.ifCond .gt 6, 3) := by decide +kernel
theorem dX6_firstCell_14 : decode cX6_firstCell 14 = .ok (.bipush (-6), 2) := by decide +kernel
theorem dX6_firstCell_16 : decode cX6_firstCell 16 = .ok (.ireturn, 1) := by decide +kernel
theorem dX6_firstCell_17 : decode cX6_firstCell 17 = .ok (.iconst 0, 1) := by decide +kernel
theorem dX6_firstCell_18 : decode cX6_firstCell 18 = .ok (.istore 5, 2) := by decide +kernel
theorem dX6_firstCell_20 : decode cX6_firstCell 20 = .ok (.iload 5, 2) := by decide +kernel
theorem dX6_firstCell_22 : decode cX6_firstCell 22 = .ok (.bipush 12, 2) := by decide +kernel
theorem dX6_firstCell_24 : decode cX6_firstCell 24 = .ok (.if_icmp .ge 53, 3) := by decide +kernel
theorem dX6_firstCell_27 : decode cX6_firstCell 27 = .ok (.aload_n 0, 1) := by decide +kernel
theorem dX6_firstCell_28 : decode cX6_firstCell 28 = .ok (.iload_n 1, 1) := by decide +kernel
theorem dX6_firstCell_29 : decode cX6_firstCell 29 = .ok (.invokevirtual 42, 3) := by decide +kernel
theorem dX6_firstCell_32 : decode cX6_firstCell 32 = .ok (.iload 5, 2) := by decide +kernel
theorem dX6_firstCell_34 : decode cX6_firstCell 34 = .ok (.ishr, 1) := by decide +kernel
theorem dX6_firstCell_35 : decode cX6_firstCell 35 = .ok (.iconst 1, 1) := by decide +kernel
theorem dX6_firstCell_36 : decode cX6_firstCell 36 = .ok (.iand, 1) := by decide +kernel
theorem dX6_firstCell_37 : decode cX6_firstCell 37 = .ok (.iconst 1, 1) := by decide +kernel
theorem dX6_firstCell_38 : decode cX6_firstCell 38 = .ok (.if_icmp .ne 7, 3) := by decide +kernel
theorem dX6_firstCell_41 : decode cX6_firstCell 41 = .ok (.iconst 1, 1) := by decide +kernel
theorem dX6_firstCell_42 : decode cX6_firstCell 42 = .ok (.goto 4, 3) := by decide +kernel
theorem dX6_firstCell_45 : decode cX6_firstCell 45 = .ok (.iconst 0, 1) := by decide +kernel
theorem dX6_firstCell_46 : decode cX6_firstCell 46 = .ok (.istore 6, 2) := by decide +kernel
theorem dX6_firstCell_48 : decode cX6_firstCell 48 = .ok (.iload 6, 2) := by decide +kernel
theorem dX6_firstCell_50 : decode cX6_firstCell 50 = .ok (.ifCond .eq 21, 3) := by decide +kernel
theorem dX6_firstCell_53 : decode cX6_firstCell 53 = .ok (.aload_n 0, 1) := by decide +kernel
theorem dX6_firstCell_54 : decode cX6_firstCell 54 = .ok (.iload 5, 2) := by decide +kernel
theorem dX6_firstCell_56 : decode cX6_firstCell 56 = .ok (.iload_n 2, 1) := by decide +kernel
theorem dX6_firstCell_57 : decode cX6_firstCell 57 = .ok (.iload_n 3, 1) := by decide +kernel
theorem dX6_firstCell_58 : decode cX6_firstCell 58 = .ok (.invokevirtual 38, 3) := by decide +kernel
theorem dX6_firstCell_61 : decode cX6_firstCell 61 = .ok (.iload 4, 2) := by decide +kernel
theorem dX6_firstCell_63 : decode cX6_firstCell 63 = .ok (.iconst 1, 1) := by decide +kernel
theorem dX6_firstCell_64 : decode cX6_firstCell 64 = .ok (.isub, 1) := by decide +kernel
theorem dX6_firstCell_65 : decode cX6_firstCell 65 = .ok (.if_icmp .ne 6, 3) := by decide +kernel
theorem dX6_firstCell_68 : decode cX6_firstCell 68 = .ok (.iload 5, 2) := by decide +kernel
theorem dX6_firstCell_70 : decode cX6_firstCell 70 = .ok (.ireturn, 1) := by decide +kernel
theorem dX6_firstCell_71 : decode cX6_firstCell 71 = .ok (.iinc 5 1, 3) := by decide +kernel
theorem dX6_firstCell_74 : decode cX6_firstCell 74 = .ok (.goto (-54), 3) := by decide +kernel
theorem dX6_firstCell_77 : decode cX6_firstCell 77 = .ok (.bipush (-6), 2) := by decide +kernel
theorem dX6_firstCell_79 : decode cX6_firstCell 79 = .ok (.ireturn, 1) := by decide +kernel
theorem dX6_fewestToEmpty_0 : decode cX6_fewestToEmpty 0 = .ok (.aload_n 0, 1) := by decide +kernel
theorem dX6_fewestToEmpty_1 : decode cX6_fewestToEmpty 1 = .ok (.iload_n 1, 1) := by decide +kernel
theorem dX6_fewestToEmpty_2 : decode cX6_fewestToEmpty 2 = .ok (.iload_n 2, 1) := by decide +kernel
theorem dX6_fewestToEmpty_3 : decode cX6_fewestToEmpty 3 = .ok (.sipush 4095, 3) := by decide +kernel
theorem dX6_fewestToEmpty_6 : decode cX6_fewestToEmpty 6 = .ok (.invokevirtual 38, 3) := by decide +kernel
theorem dX6_fewestToEmpty_9 : decode cX6_fewestToEmpty 9 = .ok (.bipush (-6), 2) := by decide +kernel
theorem dX6_fewestToEmpty_11 : decode cX6_fewestToEmpty 11 = .ok (.if_icmp .ne 6, 3) := by decide +kernel
theorem dX6_fewestToEmpty_14 : decode cX6_fewestToEmpty 14 = .ok (.bipush (-6), 2) := by decide +kernel
theorem dX6_fewestToEmpty_16 : decode cX6_fewestToEmpty 16 = .ok (.ireturn, 1) := by decide +kernel
theorem dX6_fewestToEmpty_17 : decode cX6_fewestToEmpty 17 = .ok (.aload_n 0, 1) := by decide +kernel
theorem dX6_fewestToEmpty_18 : decode cX6_fewestToEmpty 18 = .ok (.getfield 21, 3) := by decide +kernel
theorem dX6_fewestToEmpty_21 : decode cX6_fewestToEmpty 21 = .ok (.istore_n 3, 1) := by decide +kernel
theorem dX6_fewestToEmpty_22 : decode cX6_fewestToEmpty 22 = .ok (.iconst 0, 1) := by decide +kernel
theorem dX6_fewestToEmpty_23 : decode cX6_fewestToEmpty 23 = .ok (.istore 4, 2) := by decide +kernel
theorem dX6_fewestToEmpty_25 : decode cX6_fewestToEmpty 25 = .ok (.iload 4, 2) := by decide +kernel
theorem dX6_fewestToEmpty_27 : decode cX6_fewestToEmpty 27 = .ok (.aload_n 0, 1) := by decide +kernel
theorem dX6_fewestToEmpty_28 : decode cX6_fewestToEmpty 28 = .ok (.getfield 21, 3) := by decide +kernel
theorem dX6_fewestToEmpty_31 : decode cX6_fewestToEmpty 31 = .ok (.if_icmp .ge 84, 3) := by decide +kernel
theorem dX6_fewestToEmpty_34 : decode cX6_fewestToEmpty 34 = .ok (.iload 4, 2) := by decide +kernel
theorem dX6_fewestToEmpty_36 : decode cX6_fewestToEmpty 36 = .ok (.aload_n 0, 1) := by decide +kernel
theorem dX6_fewestToEmpty_37 : decode cX6_fewestToEmpty 37 = .ok (.getfield 21, 3) := by decide +kernel
theorem dX6_fewestToEmpty_40 : decode cX6_fewestToEmpty 40 = .ok (.iconst (-1), 1) := by decide +kernel
theorem dX6_fewestToEmpty_41 : decode cX6_fewestToEmpty 41 = .ok (.ixor, 1) := by decide +kernel
theorem dX6_fewestToEmpty_42 : decode cX6_fewestToEmpty 42 = .ok (.iand, 1) := by decide +kernel
theorem dX6_fewestToEmpty_43 : decode cX6_fewestToEmpty 43 = .ok (.ifCond .ne 7, 3) := by decide +kernel
theorem dX6_fewestToEmpty_46 : decode cX6_fewestToEmpty 46 = .ok (.iconst 1, 1) := by decide +kernel
theorem dX6_fewestToEmpty_47 : decode cX6_fewestToEmpty 47 = .ok (.goto 4, 3) := by decide +kernel
theorem dX6_fewestToEmpty_50 : decode cX6_fewestToEmpty 50 = .ok (.iconst 0, 1) := by decide +kernel
theorem dX6_fewestToEmpty_51 : decode cX6_fewestToEmpty 51 = .ok (.istore 5, 2) := by decide +kernel
theorem dX6_fewestToEmpty_53 : decode cX6_fewestToEmpty 53 = .ok (.iload 4, 2) := by decide +kernel
theorem dX6_fewestToEmpty_55 : decode cX6_fewestToEmpty 55 = .ok (.invokestatic 29, 3) := by decide +kernel
theorem dX6_fewestToEmpty_58 : decode cX6_fewestToEmpty 58 = .ok (.iload_n 3, 1) := by decide +kernel
theorem dX6_fewestToEmpty_59 : decode cX6_fewestToEmpty 59 = .ok (.invokestatic 29, 3) := by decide +kernel
theorem dX6_fewestToEmpty_62 : decode cX6_fewestToEmpty 62 = .ok (.if_icmp .ge 7, 3) := by decide +kernel
theorem dX6_fewestToEmpty_65 : decode cX6_fewestToEmpty 65 = .ok (.iconst 1, 1) := by decide +kernel
theorem dX6_fewestToEmpty_66 : decode cX6_fewestToEmpty 66 = .ok (.goto 4, 3) := by decide +kernel
theorem dX6_fewestToEmpty_69 : decode cX6_fewestToEmpty 69 = .ok (.iconst 0, 1) := by decide +kernel
theorem dX6_fewestToEmpty_70 : decode cX6_fewestToEmpty 70 = .ok (.istore 6, 2) := by decide +kernel
theorem dX6_fewestToEmpty_72 : decode cX6_fewestToEmpty 72 = .ok (.iload 5, 2) := by decide +kernel
theorem dX6_fewestToEmpty_74 : decode cX6_fewestToEmpty 74 = .ok (.ifCond .eq 35, 3) := by decide +kernel
theorem dX6_fewestToEmpty_77 : decode cX6_fewestToEmpty 77 = .ok (.iload 6, 2) := by decide +kernel
theorem dX6_fewestToEmpty_79 : decode cX6_fewestToEmpty 79 = .ok (.ifCond .eq 30, 3) := by decide +kernel
theorem dX6_fewestToEmpty_82 : decode cX6_fewestToEmpty 82 = .ok (.aload_n 0, 1) := by decide +kernel
theorem dX6_fewestToEmpty_83 : decode cX6_fewestToEmpty 83 = .ok (.iload_n 1, 1) := by decide +kernel
theorem dX6_fewestToEmpty_84 : decode cX6_fewestToEmpty 84 = .ok (.iload_n 2, 1) := by decide +kernel
theorem dX6_fewestToEmpty_85 : decode cX6_fewestToEmpty 85 = .ok (.aload_n 0, 1) := by decide +kernel
theorem dX6_fewestToEmpty_86 : decode cX6_fewestToEmpty 86 = .ok (.aload_n 0, 1) := by decide +kernel
theorem dX6_fewestToEmpty_87 : decode cX6_fewestToEmpty 87 = .ok (.getfield 21, 3) := by decide +kernel
theorem dX6_fewestToEmpty_90 : decode cX6_fewestToEmpty 90 = .ok (.iload 4, 2) := by decide +kernel
theorem dX6_fewestToEmpty_92 : decode cX6_fewestToEmpty 92 = .ok (.iconst (-1), 1) := by decide +kernel
theorem dX6_fewestToEmpty_93 : decode cX6_fewestToEmpty 93 = .ok (.ixor, 1) := by decide +kernel
theorem dX6_fewestToEmpty_94 : decode cX6_fewestToEmpty 94 = .ok (.iand, 1) := by decide +kernel
theorem dX6_fewestToEmpty_95 : decode cX6_fewestToEmpty 95 = .ok (.invokevirtual 45, 3) := by decide +kernel
theorem dX6_fewestToEmpty_98 : decode cX6_fewestToEmpty 98 = .ok (.invokevirtual 38, 3) := by decide +kernel
theorem dX6_fewestToEmpty_101 : decode cX6_fewestToEmpty 101 = .ok (.bipush (-6), 2) := by decide +kernel
theorem dX6_fewestToEmpty_103 : decode cX6_fewestToEmpty 103 = .ok (.if_icmp .eq 6, 3) := by decide +kernel
theorem dX6_fewestToEmpty_106 : decode cX6_fewestToEmpty 106 = .ok (.iload 4, 2) := by decide +kernel
theorem dX6_fewestToEmpty_108 : decode cX6_fewestToEmpty 108 = .ok (.istore_n 3, 1) := by decide +kernel
theorem dX6_fewestToEmpty_109 : decode cX6_fewestToEmpty 109 = .ok (.iinc 4 1, 3) := by decide +kernel
theorem dX6_fewestToEmpty_112 : decode cX6_fewestToEmpty 112 = .ok (.goto (-87), 3) := by decide +kernel
theorem dX6_fewestToEmpty_115 : decode cX6_fewestToEmpty 115 = .ok (.iload_n 3, 1) := by decide +kernel
theorem dX6_fewestToEmpty_116 : decode cX6_fewestToEmpty 116 = .ok (.ireturn, 1) := by decide +kernel
theorem dX7_init_0 : decode cX7_init 0 = .ok (.aload_n 0, 1) := by decide +kernel
theorem dX7_init_1 : decode cX7_init 1 = .ok (.invokespecial 1, 3) := by decide +kernel
theorem dX7_init_4 : decode cX7_init 4 = .ok (.aload_n 0, 1) := by decide +kernel
theorem dX7_init_5 : decode cX7_init 5 = .ok (.new 7, 3) := by decide +kernel
theorem dX7_init_8 : decode cX7_init 8 = .ok (.dup, 1) := by decide +kernel
theorem dX7_init_9 : decode cX7_init 9 = .ok (.invokespecial 9, 3) := by decide +kernel
theorem dX7_init_12 : decode cX7_init 12 = .ok (.putfield 10, 3) := by decide +kernel
theorem dX7_init_15 : decode cX7_init 15 = .ok (.aload_n 0, 1) := by decide +kernel
theorem dX7_init_16 : decode cX7_init 16 = .ok (.new 16, 3) := by decide +kernel
theorem dX7_init_19 : decode cX7_init 19 = .ok (.dup, 1) := by decide +kernel
theorem dX7_init_20 : decode cX7_init 20 = .ok (.invokespecial 18, 3) := by decide +kernel
theorem dX7_init_23 : decode cX7_init 23 = .ok (.putfield 19, 3) := by decide +kernel
theorem dX7_init_26 : decode cX7_init 26 = .ok (.aload_n 0, 1) := by decide +kernel
theorem dX7_init_27 : decode cX7_init 27 = .ok (.new 23, 3) := by decide +kernel
theorem dX7_init_30 : decode cX7_init 30 = .ok (.dup, 1) := by decide +kernel
theorem dX7_init_31 : decode cX7_init 31 = .ok (.invokespecial 25, 3) := by decide +kernel
theorem dX7_init_34 : decode cX7_init 34 = .ok (.putfield 26, 3) := by decide +kernel
theorem dX7_init_37 : decode cX7_init 37 = .ok (.return_, 1) := by decide +kernel
theorem dX7_become_0 : decode cX7_become 0 = .ok (.aload_n 0, 1) := by decide +kernel
theorem dX7_become_1 : decode cX7_become 1 = .ok (.getfield 10, 3) := by decide +kernel
theorem dX7_become_4 : decode cX7_become 4 = .ok (.aload_n 1, 1) := by decide +kernel
theorem dX7_become_5 : decode cX7_become 5 = .ok (.getfield 10, 3) := by decide +kernel
theorem dX7_become_8 : decode cX7_become 8 = .ok (.invokevirtual 30, 3) := by decide +kernel
theorem dX7_become_11 : decode cX7_become 11 = .ok (.aload_n 0, 1) := by decide +kernel
theorem dX7_become_12 : decode cX7_become 12 = .ok (.getfield 19, 3) := by decide +kernel
theorem dX7_become_15 : decode cX7_become 15 = .ok (.aload_n 1, 1) := by decide +kernel
theorem dX7_become_16 : decode cX7_become 16 = .ok (.getfield 19, 3) := by decide +kernel
theorem dX7_become_19 : decode cX7_become 19 = .ok (.invokevirtual 34, 3) := by decide +kernel
theorem dX7_become_22 : decode cX7_become 22 = .ok (.aload_n 0, 1) := by decide +kernel
theorem dX7_become_23 : decode cX7_become 23 = .ok (.getfield 26, 3) := by decide +kernel
theorem dX7_become_26 : decode cX7_become 26 = .ok (.aload_n 1, 1) := by decide +kernel
theorem dX7_become_27 : decode cX7_become 27 = .ok (.getfield 26, 3) := by decide +kernel
theorem dX7_become_30 : decode cX7_become 30 = .ok (.invokevirtual 37, 3) := by decide +kernel
theorem dX7_become_33 : decode cX7_become 33 = .ok (.return_, 1) := by decide +kernel
theorem dX8_init_0 : decode cX8_init 0 = .ok (.aload_n 0, 1) := by decide +kernel
theorem dX8_init_1 : decode cX8_init 1 = .ok (.invokespecial 1, 3) := by decide +kernel
theorem dX8_init_4 : decode cX8_init 4 = .ok (.aload_n 0, 1) := by decide +kernel
theorem dX8_init_5 : decode cX8_init 5 = .ok (.new 7, 3) := by decide +kernel
theorem dX8_init_8 : decode cX8_init 8 = .ok (.dup, 1) := by decide +kernel
theorem dX8_init_9 : decode cX8_init 9 = .ok (.invokespecial 9, 3) := by decide +kernel
theorem dX8_init_12 : decode cX8_init 12 = .ok (.putfield 10, 3) := by decide +kernel
theorem dX8_init_15 : decode cX8_init 15 = .ok (.aload_n 0, 1) := by decide +kernel
theorem dX8_init_16 : decode cX8_init 16 = .ok (.iconst 2, 1) := by decide +kernel
theorem dX8_init_17 : decode cX8_init 17 = .ok (.anewarray 7, 3) := by decide +kernel
theorem dX8_init_20 : decode cX8_init 20 = .ok (.putfield 16, 3) := by decide +kernel
theorem dX8_init_23 : decode cX8_init 23 = .ok (.aload_n 0, 1) := by decide +kernel
theorem dX8_init_24 : decode cX8_init 24 = .ok (.new 20, 3) := by decide +kernel
theorem dX8_init_27 : decode cX8_init 27 = .ok (.dup, 1) := by decide +kernel
theorem dX8_init_28 : decode cX8_init 28 = .ok (.invokespecial 22, 3) := by decide +kernel
theorem dX8_init_31 : decode cX8_init 31 = .ok (.putfield 23, 3) := by decide +kernel
theorem dX8_init_34 : decode cX8_init 34 = .ok (.aload_n 0, 1) := by decide +kernel
theorem dX8_init_35 : decode cX8_init 35 = .ok (.new 27, 3) := by decide +kernel
theorem dX8_init_38 : decode cX8_init 38 = .ok (.dup, 1) := by decide +kernel
theorem dX8_init_39 : decode cX8_init 39 = .ok (.invokespecial 29, 3) := by decide +kernel
theorem dX8_init_42 : decode cX8_init 42 = .ok (.putfield 30, 3) := by decide +kernel
theorem dX8_init_45 : decode cX8_init 45 = .ok (.aload_n 0, 1) := by decide +kernel
theorem dX8_init_46 : decode cX8_init 46 = .ok (.new 34, 3) := by decide +kernel
theorem dX8_init_49 : decode cX8_init 49 = .ok (.dup, 1) := by decide +kernel
theorem dX8_init_50 : decode cX8_init 50 = .ok (.invokespecial 36, 3) := by decide +kernel
theorem dX8_init_53 : decode cX8_init 53 = .ok (.putfield 37, 3) := by decide +kernel
theorem dX8_init_56 : decode cX8_init 56 = .ok (.aload_n 0, 1) := by decide +kernel
theorem dX8_init_57 : decode cX8_init 57 = .ok (.new 41, 3) := by decide +kernel
theorem dX8_init_60 : decode cX8_init 60 = .ok (.dup, 1) := by decide +kernel
theorem dX8_init_61 : decode cX8_init 61 = .ok (.invokespecial 43, 3) := by decide +kernel
theorem dX8_init_64 : decode cX8_init 64 = .ok (.putfield 44, 3) := by decide +kernel
theorem dX8_init_67 : decode cX8_init 67 = .ok (.return_, 1) := by decide +kernel
theorem dX8_witness_0 : decode cX8_witness 0 = .ok (.iload_n 1, 1) := by decide +kernel
theorem dX8_witness_1 : decode cX8_witness 1 = .ok (.invokestatic 48, 3) := by decide +kernel
theorem dX8_witness_4 : decode cX8_witness 4 = .ok (.ifCond .ne 5, 3) := by decide +kernel
theorem dX8_witness_7 : decode cX8_witness 7 = .ok (.iconst (-1), 1) := by decide +kernel
theorem dX8_witness_8 : decode cX8_witness 8 = .ok (.ireturn, 1) := by decide +kernel
theorem dX8_witness_9 : decode cX8_witness 9 = .ok (.iload_n 2, 1) := by decide +kernel
theorem dX8_witness_10 : decode cX8_witness 10 = .ok (.invokestatic 52, 3) := by decide +kernel
theorem dX8_witness_13 : decode cX8_witness 13 = .ok (.ifCond .eq 14, 3) := by decide +kernel
theorem dX8_witness_16 : decode cX8_witness 16 = .ok (.iload 4, 2) := by decide +kernel
theorem dX8_witness_18 : decode cX8_witness 18 = .ok (.iconst 0, 1) := by decide +kernel
theorem dX8_witness_19 : decode cX8_witness 19 = .ok (.bipush 99, 2) := by decide +kernel
theorem dX8_witness_21 : decode cX8_witness 21 = .ok (.invokestatic 55, 3) := by decide +kernel
theorem dX8_witness_24 : decode cX8_witness 24 = .ok (.ifCond .ne 6, 3) := by decide +kernel
theorem dX8_witness_27 : decode cX8_witness 27 = .ok (.bipush (-2), 2) := by decide +kernel
theorem dX8_witness_29 : decode cX8_witness 29 = .ok (.ireturn, 1) := by decide +kernel
theorem dX8_witness_30 : decode cX8_witness 30 = .ok (.aload_n 0, 1) := by decide +kernel
theorem dX8_witness_31 : decode cX8_witness 31 = .ok (.getfield 10, 3) := by decide +kernel
theorem dX8_witness_34 : decode cX8_witness 34 = .ok (.getfield 59, 3) := by decide +kernel
theorem dX8_witness_37 : decode cX8_witness 37 = .ok (.iload_n 1, 1) := by decide +kernel
theorem dX8_witness_38 : decode cX8_witness 38 = .ok (.iload_n 2, 1) := by decide +kernel
theorem dX8_witness_39 : decode cX8_witness 39 = .ok (.iload_n 3, 1) := by decide +kernel
theorem dX8_witness_40 : decode cX8_witness 40 = .ok (.iload 4, 2) := by decide +kernel
theorem dX8_witness_42 : decode cX8_witness 42 = .ok (.invokevirtual 63, 3) := by decide +kernel
theorem dX8_witness_45 : decode cX8_witness 45 = .ok (.aload_n 0, 1) := by decide +kernel
theorem dX8_witness_46 : decode cX8_witness 46 = .ok (.getfield 10, 3) := by decide +kernel
theorem dX8_witness_49 : decode cX8_witness 49 = .ok (.getfield 59, 3) := by decide +kernel
theorem dX8_witness_52 : decode cX8_witness 52 = .ok (.getfield 69, 3) := by decide +kernel
theorem dX8_witness_55 : decode cX8_witness 55 = .ok (.invokestatic 73, 3) := by decide +kernel
theorem dX8_witness_58 : decode cX8_witness 58 = .ok (.ireturn, 1) := by decide +kernel
theorem dX8_he_0 : decode cX8_he 0 = .ok (.iload_n 1, 1) := by decide +kernel
theorem dX8_he_1 : decode cX8_he 1 = .ok (.invokestatic 52, 3) := by decide +kernel
theorem dX8_he_4 : decode cX8_he 4 = .ok (.ifCond .eq 23, 3) := by decide +kernel
theorem dX8_he_7 : decode cX8_he 7 = .ok (.iload_n 2, 1) := by decide +kernel
theorem dX8_he_8 : decode cX8_he 8 = .ok (.iconst 0, 1) := by decide +kernel
theorem dX8_he_9 : decode cX8_he 9 = .ok (.bipush 9, 2) := by decide +kernel
theorem dX8_he_11 : decode cX8_he 11 = .ok (.invokestatic 55, 3) := by decide +kernel
theorem dX8_he_14 : decode cX8_he 14 = .ok (.ifCond .eq 13, 3) := by decide +kernel
theorem dX8_he_17 : decode cX8_he 17 = .ok (.iload_n 3, 1) := by decide +kernel
theorem dX8_he_18 : decode cX8_he 18 = .ok (.iconst 0, 1) := by decide +kernel
theorem dX8_he_19 : decode cX8_he 19 = .ok (.bipush 9, 2) := by decide +kernel
theorem dX8_he_21 : decode cX8_he 21 = .ok (.invokestatic 55, 3) := by decide +kernel
theorem dX8_he_24 : decode cX8_he 24 = .ok (.ifCond .ne 6, 3) := by decide +kernel
theorem dX8_he_27 : decode cX8_he 27 = .ok (.bipush (-2), 2) := by decide +kernel
theorem dX8_he_29 : decode cX8_he 29 = .ok (.ireturn, 1) := by decide +kernel
theorem dX8_he_30 : decode cX8_he 30 = .ok (.aload_n 0, 1) := by decide +kernel
theorem dX8_he_31 : decode cX8_he 31 = .ok (.getfield 10, 3) := by decide +kernel
theorem dX8_he_34 : decode cX8_he 34 = .ok (.getfield 59, 3) := by decide +kernel
theorem dX8_he_37 : decode cX8_he 37 = .ok (.astore 4, 2) := by decide +kernel
theorem dX8_he_39 : decode cX8_he 39 = .ok (.bipush 100, 2) := by decide +kernel
theorem dX8_he_41 : decode cX8_he 41 = .ok (.aload 4, 2) := by decide +kernel
theorem dX8_he_43 : decode cX8_he 43 = .ok (.getfield 79, 3) := by decide +kernel
theorem dX8_he_46 : decode cX8_he 46 = .ok (.imul, 1) := by decide +kernel
theorem dX8_he_47 : decode cX8_he 47 = .ok (.bipush 10, 2) := by decide +kernel
theorem dX8_he_49 : decode cX8_he 49 = .ok (.aload 4, 2) := by decide +kernel
theorem dX8_he_51 : decode cX8_he 51 = .ok (.getfield 82, 3) := by decide +kernel
theorem dX8_he_54 : decode cX8_he 54 = .ok (.imul, 1) := by decide +kernel
theorem dX8_he_55 : decode cX8_he 55 = .ok (.iadd, 1) := by decide +kernel
theorem dX8_he_56 : decode cX8_he 56 = .ok (.aload 4, 2) := by decide +kernel
theorem dX8_he_58 : decode cX8_he 58 = .ok (.getfield 85, 3) := by decide +kernel
theorem dX8_he_61 : decode cX8_he 61 = .ok (.iadd, 1) := by decide +kernel
theorem dX8_he_62 : decode cX8_he 62 = .ok (.istore 5, 2) := by decide +kernel
theorem dX8_he_64 : decode cX8_he 64 = .ok (.aload 4, 2) := by decide +kernel
theorem dX8_he_66 : decode cX8_he 66 = .ok (.iload_n 1, 1) := by decide +kernel
theorem dX8_he_67 : decode cX8_he 67 = .ok (.putfield 79, 3) := by decide +kernel
theorem dX8_he_70 : decode cX8_he 70 = .ok (.aload 4, 2) := by decide +kernel
theorem dX8_he_72 : decode cX8_he 72 = .ok (.iload_n 2, 1) := by decide +kernel
theorem dX8_he_73 : decode cX8_he 73 = .ok (.putfield 82, 3) := by decide +kernel
theorem dX8_he_76 : decode cX8_he 76 = .ok (.aload 4, 2) := by decide +kernel
theorem dX8_he_78 : decode cX8_he 78 = .ok (.iload_n 3, 1) := by decide +kernel
theorem dX8_he_79 : decode cX8_he 79 = .ok (.putfield 85, 3) := by decide +kernel
theorem dX8_he_82 : decode cX8_he 82 = .ok (.iload 5, 2) := by decide +kernel
theorem dX8_he_84 : decode cX8_he 84 = .ok (.ireturn, 1) := by decide +kernel
theorem dX8_way_0 : decode cX8_way 0 = .ok (.iload_n 1, 1) := by decide +kernel
theorem dX8_way_1 : decode cX8_way 1 = .ok (.invokestatic 88, 3) := by decide +kernel
theorem dX8_way_4 : decode cX8_way 4 = .ok (.ifCond .eq 15, 3) := by decide +kernel
theorem dX8_way_7 : decode cX8_way 7 = .ok (.iload_n 2, 1) := by decide +kernel
theorem dX8_way_8 : decode cX8_way 8 = .ok (.invokestatic 88, 3) := by decide +kernel
theorem dX8_way_11 : decode cX8_way 11 = .ok (.ifCond .eq 8, 3) := by decide +kernel
theorem dX8_way_14 : decode cX8_way 14 = .ok (.iload_n 1, 1) := by decide +kernel
theorem dX8_way_15 : decode cX8_way 15 = .ok (.iload_n 2, 1) := by decide +kernel
theorem dX8_way_16 : decode cX8_way 16 = .ok (.if_icmp .ne 5, 3) := by decide +kernel
theorem dX8_way_19 : decode cX8_way 19 = .ok (.iconst (-1), 1) := by decide +kernel
theorem dX8_way_20 : decode cX8_way 20 = .ok (.ireturn, 1) := by decide +kernel
theorem dX8_way_21 : decode cX8_way 21 = .ok (.aload_n 0, 1) := by decide +kernel
theorem dX8_way_22 : decode cX8_way 22 = .ok (.getfield 10, 3) := by decide +kernel
theorem dX8_way_25 : decode cX8_way 25 = .ok (.getfield 91, 3) := by decide +kernel
theorem dX8_way_28 : decode cX8_way 28 = .ok (.iload_n 1, 1) := by decide +kernel
theorem dX8_way_29 : decode cX8_way 29 = .ok (.iload_n 2, 1) := by decide +kernel
theorem dX8_way_30 : decode cX8_way 30 = .ok (.iload_n 3, 1) := by decide +kernel
theorem dX8_way_31 : decode cX8_way 31 = .ok (.invokevirtual 95, 3) := by decide +kernel
theorem dX8_way_34 : decode cX8_way 34 = .ok (.aload_n 0, 1) := by decide +kernel
theorem dX8_way_35 : decode cX8_way 35 = .ok (.getfield 10, 3) := by decide +kernel
theorem dX8_way_38 : decode cX8_way 38 = .ok (.getfield 91, 3) := by decide +kernel
theorem dX8_way_41 : decode cX8_way 41 = .ok (.invokevirtual 101, 3) := by decide +kernel
theorem dX8_way_44 : decode cX8_way 44 = .ok (.ireturn, 1) := by decide +kernel
theorem dX8_milk_0 : decode cX8_milk 0 = .ok (.iload_n 1, 1) := by decide +kernel
theorem dX8_milk_1 : decode cX8_milk 1 = .ok (.iconst 0, 1) := by decide +kernel
theorem dX8_milk_2 : decode cX8_milk 2 = .ok (.sipush 4095, 3) := by decide +kernel
theorem dX8_milk_5 : decode cX8_milk 5 = .ok (.invokestatic 55, 3) := by decide +kernel
theorem dX8_milk_8 : decode cX8_milk 8 = .ok (.ifCond .ne 6, 3) := by decide +kernel
theorem dX8_milk_11 : decode cX8_milk 11 = .ok (.bipush (-2), 2) := by decide +kernel
theorem dX8_milk_13 : decode cX8_milk 13 = .ok (.ireturn, 1) := by decide +kernel
theorem dX8_milk_14 : decode cX8_milk 14 = .ok (.aload_n 0, 1) := by decide +kernel
theorem dX8_milk_15 : decode cX8_milk 15 = .ok (.getfield 10, 3) := by decide +kernel
theorem dX8_milk_18 : decode cX8_milk 18 = .ok (.getfield 91, 3) := by decide +kernel
theorem dX8_milk_21 : decode cX8_milk 21 = .ok (.getfield 105, 3) := by decide +kernel
theorem dX8_milk_24 : decode cX8_milk 24 = .ok (.istore_n 2, 1) := by decide +kernel
theorem dX8_milk_25 : decode cX8_milk 25 = .ok (.aload_n 0, 1) := by decide +kernel
theorem dX8_milk_26 : decode cX8_milk 26 = .ok (.getfield 10, 3) := by decide +kernel
theorem dX8_milk_29 : decode cX8_milk 29 = .ok (.getfield 91, 3) := by decide +kernel
theorem dX8_milk_32 : decode cX8_milk 32 = .ok (.iload_n 1, 1) := by decide +kernel
theorem dX8_milk_33 : decode cX8_milk 33 = .ok (.putfield 105, 3) := by decide +kernel
theorem dX8_milk_36 : decode cX8_milk 36 = .ok (.iload_n 2, 1) := by decide +kernel
theorem dX8_milk_37 : decode cX8_milk 37 = .ok (.ireturn, 1) := by decide +kernel
theorem dX8_say_0 : decode cX8_say 0 = .ok (.iload_n 1, 1) := by decide +kernel
theorem dX8_say_1 : decode cX8_say 1 = .ok (.bipush 33, 2) := by decide +kernel
theorem dX8_say_3 : decode cX8_say 3 = .ok (.bipush 126, 2) := by decide +kernel
theorem dX8_say_5 : decode cX8_say 5 = .ok (.invokestatic 55, 3) := by decide +kernel
theorem dX8_say_8 : decode cX8_say 8 = .ok (.ifCond .ne 6, 3) := by decide +kernel
theorem dX8_say_11 : decode cX8_say 11 = .ok (.bipush (-2), 2) := by decide +kernel
theorem dX8_say_13 : decode cX8_say 13 = .ok (.ireturn, 1) := by decide +kernel
theorem dX8_say_14 : decode cX8_say 14 = .ok (.aload_n 0, 1) := by decide +kernel
theorem dX8_say_15 : decode cX8_say 15 = .ok (.getfield 23, 3) := by decide +kernel
theorem dX8_say_18 : decode cX8_say 18 = .ok (.getfield 108, 3) := by decide +kernel
theorem dX8_say_21 : decode cX8_say 21 = .ok (.bipush 60, 2) := by decide +kernel
theorem dX8_say_23 : decode cX8_say 23 = .ok (.if_icmp .lt 6, 3) := by decide +kernel
theorem dX8_say_26 : decode cX8_say 26 = .ok (.bipush (-4), 2) := by decide +kernel
theorem dX8_say_28 : decode cX8_say 28 = .ok (.ireturn, 1) := by decide +kernel
theorem dX8_say_29 : decode cX8_say 29 = .ok (.aload_n 0, 1) := by decide +kernel
theorem dX8_say_30 : decode cX8_say 30 = .ok (.getfield 23, 3) := by decide +kernel
theorem dX8_say_33 : decode cX8_say 33 = .ok (.iload_n 1, 1) := by decide +kernel
theorem dX8_say_34 : decode cX8_say 34 = .ok (.i2c, 1) := by decide +kernel
theorem dX8_say_35 : decode cX8_say 35 = .ok (.invokevirtual 111, 3) := by decide +kernel
theorem dX8_say_38 : decode cX8_say 38 = .ok (.aload_n 0, 1) := by decide +kernel
theorem dX8_say_39 : decode cX8_say 39 = .ok (.getfield 23, 3) := by decide +kernel
theorem dX8_say_42 : decode cX8_say 42 = .ok (.getfield 108, 3) := by decide +kernel
theorem dX8_say_45 : decode cX8_say 45 = .ok (.ireturn, 1) := by decide +kernel
theorem dX8_wipe_0 : decode cX8_wipe 0 = .ok (.aload_n 0, 1) := by decide +kernel
theorem dX8_wipe_1 : decode cX8_wipe 1 = .ok (.getfield 23, 3) := by decide +kernel
theorem dX8_wipe_4 : decode cX8_wipe 4 = .ok (.getfield 108, 3) := by decide +kernel
theorem dX8_wipe_7 : decode cX8_wipe 7 = .ok (.istore_n 1, 1) := by decide +kernel
theorem dX8_wipe_8 : decode cX8_wipe 8 = .ok (.aload_n 0, 1) := by decide +kernel
theorem dX8_wipe_9 : decode cX8_wipe 9 = .ok (.getfield 23, 3) := by decide +kernel
theorem dX8_wipe_12 : decode cX8_wipe 12 = .ok (.iconst 0, 1) := by decide +kernel
theorem dX8_wipe_13 : decode cX8_wipe 13 = .ok (.putfield 108, 3) := by decide +kernel
theorem dX8_wipe_16 : decode cX8_wipe 16 = .ok (.iload_n 1, 1) := by decide +kernel
theorem dX8_wipe_17 : decode cX8_wipe 17 = .ok (.ireturn, 1) := by decide +kernel
theorem dX8_fault_0 : decode cX8_fault 0 = .ok (.aload_n 0, 1) := by decide +kernel
theorem dX8_fault_1 : decode cX8_fault 1 = .ok (.getfield 23, 3) := by decide +kernel
theorem dX8_fault_4 : decode cX8_fault 4 = .ok (.invokevirtual 115, 3) := by decide +kernel
theorem dX8_fault_7 : decode cX8_fault 7 = .ok (.ireturn, 1) := by decide +kernel
theorem dX8_judge_0 : decode cX8_judge 0 = .ok (.iload_n 1, 1) := by decide +kernel
theorem dX8_judge_1 : decode cX8_judge 1 = .ok (.iconst 0, 1) := by decide +kernel
theorem dX8_judge_2 : decode cX8_judge 2 = .ok (.iconst 1, 1) := by decide +kernel
theorem dX8_judge_3 : decode cX8_judge 3 = .ok (.invokestatic 55, 3) := by decide +kernel
theorem dX8_judge_6 : decode cX8_judge 6 = .ok (.ifCond .ne 6, 3) := by decide +kernel
theorem dX8_judge_9 : decode cX8_judge 9 = .ok (.bipush (-2), 2) := by decide +kernel
theorem dX8_judge_11 : decode cX8_judge 11 = .ok (.ireturn, 1) := by decide +kernel
theorem dX8_judge_12 : decode cX8_judge 12 = .ok (.aload_n 0, 1) := by decide +kernel
theorem dX8_judge_13 : decode cX8_judge 13 = .ok (.getfield 30, 3) := by decide +kernel
theorem dX8_judge_16 : decode cX8_judge 16 = .ok (.aload_n 0, 1) := by decide +kernel
theorem dX8_judge_17 : decode cX8_judge 17 = .ok (.getfield 10, 3) := by decide +kernel
theorem dX8_judge_20 : decode cX8_judge 20 = .ok (.getfield 59, 3) := by decide +kernel
theorem dX8_judge_23 : decode cX8_judge 23 = .ok (.aload_n 0, 1) := by decide +kernel
theorem dX8_judge_24 : decode cX8_judge 24 = .ok (.getfield 23, 3) := by decide +kernel
theorem dX8_judge_27 : decode cX8_judge 27 = .ok (.invokevirtual 118, 3) := by decide +kernel
theorem dX8_judge_30 : decode cX8_judge 30 = .ok (.aload_n 0, 1) := by decide +kernel
theorem dX8_judge_31 : decode cX8_judge 31 = .ok (.getfield 30, 3) := by decide +kernel
theorem dX8_judge_34 : decode cX8_judge 34 = .ok (.getfield 122, 3) := by decide +kernel
theorem dX8_judge_37 : decode cX8_judge 37 = .ok (.iconst (-1), 1) := by decide +kernel
theorem dX8_judge_38 : decode cX8_judge 38 = .ok (.if_icmp .ne 6, 3) := by decide +kernel
theorem dX8_judge_41 : decode cX8_judge 41 = .ok (.bipush (-5), 2) := by decide +kernel
theorem dX8_judge_43 : decode cX8_judge 43 = .ok (.ireturn, 1) := by decide +kernel
theorem dX8_judge_44 : decode cX8_judge 44 = .ok (.aload_n 0, 1) := by decide +kernel
theorem dX8_judge_45 : decode cX8_judge 45 = .ok (.getfield 30, 3) := by decide +kernel
theorem dX8_judge_48 : decode cX8_judge 48 = .ok (.getfield 122, 3) := by decide +kernel
theorem dX8_judge_51 : decode cX8_judge 51 = .ok (.ifCond .ne 6, 3) := by decide +kernel
theorem dX8_judge_54 : decode cX8_judge 54 = .ok (.bipush (-6), 2) := by decide +kernel
theorem dX8_judge_56 : decode cX8_judge 56 = .ok (.ireturn, 1) := by decide +kernel
theorem dX8_judge_57 : decode cX8_judge 57 = .ok (.iload_n 1, 1) := by decide +kernel
theorem dX8_judge_58 : decode cX8_judge 58 = .ok (.ifCond .ne 13, 3) := by decide +kernel
theorem dX8_judge_61 : decode cX8_judge 61 = .ok (.aload_n 0, 1) := by decide +kernel
theorem dX8_judge_62 : decode cX8_judge 62 = .ok (.getfield 30, 3) := by decide +kernel
theorem dX8_judge_65 : decode cX8_judge 65 = .ok (.getfield 125, 3) := by decide +kernel
theorem dX8_judge_68 : decode cX8_judge 68 = .ok (.goto 10, 3) := by decide +kernel
theorem dX8_judge_71 : decode cX8_judge 71 = .ok (.aload_n 0, 1) := by decide +kernel
theorem dX8_judge_72 : decode cX8_judge 72 = .ok (.getfield 30, 3) := by decide +kernel
theorem dX8_judge_75 : decode cX8_judge 75 = .ok (.getfield 122, 3) := by decide +kernel
theorem dX8_judge_78 : decode cX8_judge 78 = .ok (.ireturn, 1) := by decide +kernel
theorem dX8_done_0 : decode cX8_done 0 = .ok (.aload_n 0, 1) := by decide +kernel
theorem dX8_done_1 : decode cX8_done 1 = .ok (.getfield 30, 3) := by decide +kernel
theorem dX8_done_4 : decode cX8_done 4 = .ok (.aload_n 0, 1) := by decide +kernel
theorem dX8_done_5 : decode cX8_done 5 = .ok (.getfield 10, 3) := by decide +kernel
theorem dX8_done_8 : decode cX8_done 8 = .ok (.getfield 59, 3) := by decide +kernel
theorem dX8_done_11 : decode cX8_done 11 = .ok (.aload_n 0, 1) := by decide +kernel
theorem dX8_done_12 : decode cX8_done 12 = .ok (.getfield 23, 3) := by decide +kernel
theorem dX8_done_15 : decode cX8_done 15 = .ok (.invokevirtual 118, 3) := by decide +kernel
theorem dX8_done_18 : decode cX8_done 18 = .ok (.aload_n 0, 1) := by decide +kernel
theorem dX8_done_19 : decode cX8_done 19 = .ok (.getfield 30, 3) := by decide +kernel
theorem dX8_done_22 : decode cX8_done 22 = .ok (.getfield 122, 3) := by decide +kernel
theorem dX8_done_25 : decode cX8_done 25 = .ok (.ifCond .eq 6, 3) := by decide +kernel
theorem dX8_done_28 : decode cX8_done 28 = .ok (.bipush (-5), 2) := by decide +kernel
theorem dX8_done_30 : decode cX8_done 30 = .ok (.ireturn, 1) := by decide +kernel
theorem dX8_done_31 : decode cX8_done 31 = .ok (.aload_n 0, 1) := by decide +kernel
theorem dX8_done_32 : decode cX8_done 32 = .ok (.getfield 10, 3) := by decide +kernel
theorem dX8_done_35 : decode cX8_done 35 = .ok (.getfield 59, 3) := by decide +kernel
theorem dX8_done_38 : decode cX8_done 38 = .ok (.aload_n 0, 1) := by decide +kernel
theorem dX8_done_39 : decode cX8_done 39 = .ok (.getfield 30, 3) := by decide +kernel
theorem dX8_done_42 : decode cX8_done 42 = .ok (.getfield 128, 3) := by decide +kernel
theorem dX8_done_45 : decode cX8_done 45 = .ok (.invokevirtual 129, 3) := by decide +kernel
theorem dX8_done_48 : decode cX8_done 48 = .ok (.aload_n 0, 1) := by decide +kernel
theorem dX8_done_49 : decode cX8_done 49 = .ok (.getfield 23, 3) := by decide +kernel
theorem dX8_done_52 : decode cX8_done 52 = .ok (.iconst 0, 1) := by decide +kernel
theorem dX8_done_53 : decode cX8_done 53 = .ok (.putfield 108, 3) := by decide +kernel
theorem dX8_done_56 : decode cX8_done 56 = .ok (.aload_n 0, 1) := by decide +kernel
theorem dX8_done_57 : decode cX8_done 57 = .ok (.getfield 30, 3) := by decide +kernel
theorem dX8_done_60 : decode cX8_done 60 = .ok (.getfield 125, 3) := by decide +kernel
theorem dX8_done_63 : decode cX8_done 63 = .ok (.ireturn, 1) := by decide +kernel
theorem dX8_behind_0 : decode cX8_behind 0 = .ok (.aload_n 0, 1) := by decide +kernel
theorem dX8_behind_1 : decode cX8_behind 1 = .ok (.getfield 10, 3) := by decide +kernel
theorem dX8_behind_4 : decode cX8_behind 4 = .ok (.getfield 59, 3) := by decide +kernel
theorem dX8_behind_7 : decode cX8_behind 7 = .ok (.iload_n 1, 1) := by decide +kernel
theorem dX8_behind_8 : decode cX8_behind 8 = .ok (.invokevirtual 133, 3) := by decide +kernel
theorem dX8_behind_11 : decode cX8_behind 11 = .ok (.ifCond .ne 5, 3) := by decide +kernel
theorem dX8_behind_14 : decode cX8_behind 14 = .ok (.iconst (-1), 1) := by decide +kernel
theorem dX8_behind_15 : decode cX8_behind 15 = .ok (.ireturn, 1) := by decide +kernel
theorem dX8_behind_16 : decode cX8_behind 16 = .ok (.iload_n 2, 1) := by decide +kernel
theorem dX8_behind_17 : decode cX8_behind 17 = .ok (.iconst 0, 1) := by decide +kernel
theorem dX8_behind_18 : decode cX8_behind 18 = .ok (.iconst 1, 1) := by decide +kernel
theorem dX8_behind_19 : decode cX8_behind 19 = .ok (.invokestatic 55, 3) := by decide +kernel
theorem dX8_behind_22 : decode cX8_behind 22 = .ok (.ifCond .ne 6, 3) := by decide +kernel
theorem dX8_behind_25 : decode cX8_behind 25 = .ok (.bipush (-2), 2) := by decide +kernel
theorem dX8_behind_27 : decode cX8_behind 27 = .ok (.ireturn, 1) := by decide +kernel
theorem dX8_behind_28 : decode cX8_behind 28 = .ok (.aload_n 0, 1) := by decide +kernel
theorem dX8_behind_29 : decode cX8_behind 29 = .ok (.getfield 30, 3) := by decide +kernel
theorem dX8_behind_32 : decode cX8_behind 32 = .ok (.aload_n 0, 1) := by decide +kernel
theorem dX8_behind_33 : decode cX8_behind 33 = .ok (.getfield 10, 3) := by decide +kernel
theorem dX8_behind_36 : decode cX8_behind 36 = .ok (.getfield 59, 3) := by decide +kernel
theorem dX8_behind_39 : decode cX8_behind 39 = .ok (.aload_n 0, 1) := by decide +kernel
theorem dX8_behind_40 : decode cX8_behind 40 = .ok (.getfield 23, 3) := by decide +kernel
theorem dX8_behind_43 : decode cX8_behind 43 = .ok (.invokevirtual 118, 3) := by decide +kernel
theorem dX8_behind_46 : decode cX8_behind 46 = .ok (.aload_n 0, 1) := by decide +kernel
theorem dX8_behind_47 : decode cX8_behind 47 = .ok (.getfield 30, 3) := by decide +kernel
theorem dX8_behind_50 : decode cX8_behind 50 = .ok (.getfield 122, 3) := by decide +kernel
theorem dX8_behind_53 : decode cX8_behind 53 = .ok (.ifCond .eq 6, 3) := by decide +kernel
theorem dX8_behind_56 : decode cX8_behind 56 = .ok (.bipush (-5), 2) := by decide +kernel
theorem dX8_behind_58 : decode cX8_behind 58 = .ok (.ireturn, 1) := by decide +kernel
theorem dX8_behind_59 : decode cX8_behind 59 = .ok (.aload_n 0, 1) := by decide +kernel
theorem dX8_behind_60 : decode cX8_behind 60 = .ok (.getfield 30, 3) := by decide +kernel
theorem dX8_behind_63 : decode cX8_behind 63 = .ok (.getfield 128, 3) := by decide +kernel
theorem dX8_behind_66 : decode cX8_behind 66 = .ok (.iload_n 1, 1) := by decide +kernel
theorem dX8_behind_67 : decode cX8_behind 67 = .ok (.invokevirtual 133, 3) := by decide +kernel
theorem dX8_behind_70 : decode cX8_behind 70 = .ok (.ifCond .ne 6, 3) := by decide +kernel
theorem dX8_behind_73 : decode cX8_behind 73 = .ok (.bipush (-6), 2) := by decide +kernel
theorem dX8_behind_75 : decode cX8_behind 75 = .ok (.ireturn, 1) := by decide +kernel
theorem dX8_behind_76 : decode cX8_behind 76 = .ok (.iload_n 2, 1) := by decide +kernel
theorem dX8_behind_77 : decode cX8_behind 77 = .ok (.ifCond .ne 17, 3) := by decide +kernel
theorem dX8_behind_80 : decode cX8_behind 80 = .ok (.aload_n 0, 1) := by decide +kernel
theorem dX8_behind_81 : decode cX8_behind 81 = .ok (.getfield 30, 3) := by decide +kernel
theorem dX8_behind_84 : decode cX8_behind 84 = .ok (.getfield 128, 3) := by decide +kernel
theorem dX8_behind_87 : decode cX8_behind 87 = .ok (.iload_n 1, 1) := by decide +kernel
theorem dX8_behind_88 : decode cX8_behind 88 = .ok (.invokevirtual 136, 3) := by decide +kernel
theorem dX8_behind_91 : decode cX8_behind 91 = .ok (.goto 17, 3) := by decide +kernel
theorem dX8_behind_94 : decode cX8_behind 94 = .ok (.aload_n 0, 1) := by decide +kernel
theorem dX8_behind_95 : decode cX8_behind 95 = .ok (.getfield 30, 3) := by decide +kernel
theorem dX8_behind_98 : decode cX8_behind 98 = .ok (.getfield 128, 3) := by decide +kernel
theorem dX8_behind_101 : decode cX8_behind 101 = .ok (.iload_n 1, 1) := by decide +kernel
theorem dX8_behind_102 : decode cX8_behind 102 = .ok (.invokevirtual 139, 3) := by decide +kernel
theorem dX8_behind_105 : decode cX8_behind 105 = .ok (.invokestatic 142, 3) := by decide +kernel
theorem dX8_behind_108 : decode cX8_behind 108 = .ok (.ireturn, 1) := by decide +kernel
theorem dX8_then_0 : decode cX8_then 0 = .ok (.iload_n 1, 1) := by decide +kernel
theorem dX8_then_1 : decode cX8_then 1 = .ok (.iconst 0, 1) := by decide +kernel
theorem dX8_then_2 : decode cX8_then 2 = .ok (.bipush 6, 2) := by decide +kernel
theorem dX8_then_4 : decode cX8_then 4 = .ok (.invokestatic 55, 3) := by decide +kernel
theorem dX8_then_7 : decode cX8_then 7 = .ok (.ifCond .ne 6, 3) := by decide +kernel
theorem dX8_then_10 : decode cX8_then 10 = .ok (.bipush (-2), 2) := by decide +kernel
theorem dX8_then_12 : decode cX8_then 12 = .ok (.ireturn, 1) := by decide +kernel
theorem dX8_then_13 : decode cX8_then 13 = .ok (.aload_n 0, 1) := by decide +kernel
theorem dX8_then_14 : decode cX8_then 14 = .ok (.getfield 30, 3) := by decide +kernel
theorem dX8_then_17 : decode cX8_then 17 = .ok (.aload_n 0, 1) := by decide +kernel
theorem dX8_then_18 : decode cX8_then 18 = .ok (.getfield 10, 3) := by decide +kernel
theorem dX8_then_21 : decode cX8_then 21 = .ok (.getfield 59, 3) := by decide +kernel
theorem dX8_then_24 : decode cX8_then 24 = .ok (.aload_n 0, 1) := by decide +kernel
theorem dX8_then_25 : decode cX8_then 25 = .ok (.getfield 23, 3) := by decide +kernel
theorem dX8_then_28 : decode cX8_then 28 = .ok (.invokevirtual 118, 3) := by decide +kernel
theorem dX8_then_31 : decode cX8_then 31 = .ok (.aload_n 0, 1) := by decide +kernel
theorem dX8_then_32 : decode cX8_then 32 = .ok (.getfield 30, 3) := by decide +kernel
theorem dX8_then_35 : decode cX8_then 35 = .ok (.getfield 122, 3) := by decide +kernel
theorem dX8_then_38 : decode cX8_then 38 = .ok (.ifCond .eq 6, 3) := by decide +kernel
theorem dX8_then_41 : decode cX8_then 41 = .ok (.bipush (-5), 2) := by decide +kernel
theorem dX8_then_43 : decode cX8_then 43 = .ok (.ireturn, 1) := by decide +kernel
theorem dX8_then_44 : decode cX8_then 44 = .ok (.aload_n 0, 1) := by decide +kernel
theorem dX8_then_45 : decode cX8_then 45 = .ok (.getfield 30, 3) := by decide +kernel
theorem dX8_then_48 : decode cX8_then 48 = .ok (.getfield 128, 3) := by decide +kernel
theorem dX8_then_51 : decode cX8_then 51 = .ok (.astore_n 2, 1) := by decide +kernel
theorem dX8_then_52 : decode cX8_then 52 = .ok (.aload_n 2, 1) := by decide +kernel
theorem dX8_then_53 : decode cX8_then 53 = .ok (.invokevirtual 146, 3) := by decide +kernel
theorem dX8_then_56 : decode cX8_then 56 = .ok (.istore_n 3, 1) := by decide +kernel
theorem dX8_then_57 : decode cX8_then 57 = .ok (.iload_n 1, 1) := by decide +kernel
theorem dX8_then_58 : decode cX8_then 58 = .ok (.tableswitch 82 0 5 #[38, 40, 52, 64, 69, 74], 38) := by decide +kernel
theorem dX8_then_96 : decode cX8_then 96 = .ok (.iload_n 3, 1) := by decide +kernel
theorem dX8_then_97 : decode cX8_then 97 = .ok (.ireturn, 1) := by decide +kernel
theorem dX8_then_98 : decode cX8_then 98 = .ok (.aload_n 2, 1) := by decide +kernel
theorem dX8_then_99 : decode cX8_then 99 = .ok (.invokevirtual 149, 3) := by decide +kernel
theorem dX8_then_102 : decode cX8_then 102 = .ok (.iload_n 3, 1) := by decide +kernel
theorem dX8_then_103 : decode cX8_then 103 = .ok (.iconst (-1), 1) := by decide +kernel
theorem dX8_then_104 : decode cX8_then 104 = .ok (.ixor, 1) := by decide +kernel
theorem dX8_then_105 : decode cX8_then 105 = .ok (.iand, 1) := by decide +kernel
theorem dX8_then_106 : decode cX8_then 106 = .ok (.invokestatic 73, 3) := by decide +kernel
theorem dX8_then_109 : decode cX8_then 109 = .ok (.ireturn, 1) := by decide +kernel
theorem dX8_then_110 : decode cX8_then 110 = .ok (.iload_n 3, 1) := by decide +kernel
theorem dX8_then_111 : decode cX8_then 111 = .ok (.aload_n 2, 1) := by decide +kernel
theorem dX8_then_112 : decode cX8_then 112 = .ok (.invokevirtual 149, 3) := by decide +kernel
theorem dX8_then_115 : decode cX8_then 115 = .ok (.iconst (-1), 1) := by decide +kernel
theorem dX8_then_116 : decode cX8_then 116 = .ok (.ixor, 1) := by decide +kernel
theorem dX8_then_117 : decode cX8_then 117 = .ok (.iand, 1) := by decide +kernel
theorem dX8_then_118 : decode cX8_then 118 = .ok (.invokestatic 73, 3) := by decide +kernel
theorem dX8_then_121 : decode cX8_then 121 = .ok (.ireturn, 1) := by decide +kernel
theorem dX8_then_122 : decode cX8_then 122 = .ok (.aload_n 2, 1) := by decide +kernel
theorem dX8_then_123 : decode cX8_then 123 = .ok (.getfield 79, 3) := by decide +kernel
theorem dX8_then_126 : decode cX8_then 126 = .ok (.ireturn, 1) := by decide +kernel
theorem dX8_then_127 : decode cX8_then 127 = .ok (.aload_n 2, 1) := by decide +kernel
theorem dX8_then_128 : decode cX8_then 128 = .ok (.getfield 152, 3) := by decide +kernel
theorem dX8_then_131 : decode cX8_then 131 = .ok (.ireturn, 1) := by decide +kernel
theorem dX8_then_132 : decode cX8_then 132 = .ok (.aload_n 0, 1) := by decide +kernel
theorem dX8_then_133 : decode cX8_then 133 = .ok (.getfield 30, 3) := by decide +kernel
theorem dX8_then_136 : decode cX8_then 136 = .ok (.getfield 155, 3) := by decide +kernel
theorem dX8_then_139 : decode cX8_then 139 = .ok (.ireturn, 1) := by decide +kernel
theorem dX8_then_140 : decode cX8_then 140 = .ok (.aload_n 0, 1) := by decide +kernel
theorem dX8_then_141 : decode cX8_then 141 = .ok (.getfield 30, 3) := by decide +kernel
theorem dX8_then_144 : decode cX8_then 144 = .ok (.getfield 158, 3) := by decide +kernel
theorem dX8_then_147 : decode cX8_then 147 = .ok (.ireturn, 1) := by decide +kernel
theorem dX8_lasts_0 : decode cX8_lasts 0 = .ok (.aload_n 0, 1) := by decide +kernel
theorem dX8_lasts_1 : decode cX8_lasts 1 = .ok (.getfield 10, 3) := by decide +kernel
theorem dX8_lasts_4 : decode cX8_lasts 4 = .ok (.getfield 59, 3) := by decide +kernel
theorem dX8_lasts_7 : decode cX8_lasts 7 = .ok (.astore_n 2, 1) := by decide +kernel
theorem dX8_lasts_8 : decode cX8_lasts 8 = .ok (.aload_n 2, 1) := by decide +kernel
theorem dX8_lasts_9 : decode cX8_lasts 9 = .ok (.iload_n 1, 1) := by decide +kernel
theorem dX8_lasts_10 : decode cX8_lasts 10 = .ok (.invokevirtual 133, 3) := by decide +kernel
theorem dX8_lasts_13 : decode cX8_lasts 13 = .ok (.ifCond .ne 5, 3) := by decide +kernel
theorem dX8_lasts_16 : decode cX8_lasts 16 = .ok (.iconst (-1), 1) := by decide +kernel
theorem dX8_lasts_17 : decode cX8_lasts 17 = .ok (.ireturn, 1) := by decide +kernel
theorem dX8_lasts_18 : decode cX8_lasts 18 = .ok (.aload_n 2, 1) := by decide +kernel
theorem dX8_lasts_19 : decode cX8_lasts 19 = .ok (.iload_n 1, 1) := by decide +kernel
theorem dX8_lasts_20 : decode cX8_lasts 20 = .ok (.invokevirtual 136, 3) := by decide +kernel
theorem dX8_lasts_23 : decode cX8_lasts 23 = .ok (.istore_n 3, 1) := by decide +kernel
theorem dX8_lasts_24 : decode cX8_lasts 24 = .ok (.iload_n 3, 1) := by decide +kernel
theorem dX8_lasts_25 : decode cX8_lasts 25 = .ok (.ifCond .ne 5, 3) := by decide +kernel
theorem dX8_lasts_28 : decode cX8_lasts 28 = .ok (.iconst 0, 1) := by decide +kernel
theorem dX8_lasts_29 : decode cX8_lasts 29 = .ok (.ireturn, 1) := by decide +kernel
theorem dX8_lasts_30 : decode cX8_lasts 30 = .ok (.aload_n 2, 1) := by decide +kernel
theorem dX8_lasts_31 : decode cX8_lasts 31 = .ok (.iload_n 1, 1) := by decide +kernel
theorem dX8_lasts_32 : decode cX8_lasts 32 = .ok (.invokevirtual 161, 3) := by decide +kernel
theorem dX8_lasts_35 : decode cX8_lasts 35 = .ok (.istore 4, 2) := by decide +kernel
theorem dX8_lasts_37 : decode cX8_lasts 37 = .ok (.iload 4, 2) := by decide +kernel
theorem dX8_lasts_39 : decode cX8_lasts 39 = .ok (.ifCond .le 15, 3) := by decide +kernel
theorem dX8_lasts_42 : decode cX8_lasts 42 = .ok (.iload_n 3, 1) := by decide +kernel
theorem dX8_lasts_43 : decode cX8_lasts 43 = .ok (.iload 4, 2) := by decide +kernel
theorem dX8_lasts_45 : decode cX8_lasts 45 = .ok (.iadd, 1) := by decide +kernel
theorem dX8_lasts_46 : decode cX8_lasts 46 = .ok (.iconst 1, 1) := by decide +kernel
theorem dX8_lasts_47 : decode cX8_lasts 47 = .ok (.isub, 1) := by decide +kernel
theorem dX8_lasts_48 : decode cX8_lasts 48 = .ok (.iload 4, 2) := by decide +kernel
theorem dX8_lasts_50 : decode cX8_lasts 50 = .ok (.idiv, 1) := by decide +kernel
theorem dX8_lasts_51 : decode cX8_lasts 51 = .ok (.goto 5, 3) := by decide +kernel
theorem dX8_lasts_54 : decode cX8_lasts 54 = .ok (.bipush (-6), 2) := by decide +kernel
theorem dX8_lasts_56 : decode cX8_lasts 56 = .ok (.ireturn, 1) := by decide +kernel
theorem dX8_trials_0 : decode cX8_trials 0 = .ok (.iload_n 1, 1) := by decide +kernel
theorem dX8_trials_1 : decode cX8_trials 1 = .ok (.iconst 1, 1) := by decide +kernel
theorem dX8_trials_2 : decode cX8_trials 2 = .ok (.bipush 99, 2) := by decide +kernel
theorem dX8_trials_4 : decode cX8_trials 4 = .ok (.invokestatic 55, 3) := by decide +kernel
theorem dX8_trials_7 : decode cX8_trials 7 = .ok (.ifCond .eq 22, 3) := by decide +kernel
theorem dX8_trials_10 : decode cX8_trials 10 = .ok (.iload_n 2, 1) := by decide +kernel
theorem dX8_trials_11 : decode cX8_trials 11 = .ok (.iconst 1, 1) := by decide +kernel
theorem dX8_trials_12 : decode cX8_trials 12 = .ok (.bipush 20, 2) := by decide +kernel
theorem dX8_trials_14 : decode cX8_trials 14 = .ok (.invokestatic 55, 3) := by decide +kernel
theorem dX8_trials_17 : decode cX8_trials 17 = .ok (.ifCond .eq 12, 3) := by decide +kernel
theorem dX8_trials_20 : decode cX8_trials 20 = .ok (.iload_n 3, 1) := by decide +kernel
theorem dX8_trials_21 : decode cX8_trials 21 = .ok (.iconst 0, 1) := by decide +kernel
theorem dX8_trials_22 : decode cX8_trials 22 = .ok (.iconst 1, 1) := by decide +kernel
theorem dX8_trials_23 : decode cX8_trials 23 = .ok (.invokestatic 55, 3) := by decide +kernel
theorem dX8_trials_26 : decode cX8_trials 26 = .ok (.ifCond .ne 6, 3) := by decide +kernel
theorem dX8_trials_29 : decode cX8_trials 29 = .ok (.bipush (-2), 2) := by decide +kernel
theorem dX8_trials_31 : decode cX8_trials 31 = .ok (.ireturn, 1) := by decide +kernel
theorem dX8_trials_32 : decode cX8_trials 32 = .ok (.aload_n 0, 1) := by decide +kernel
theorem dX8_trials_33 : decode cX8_trials 33 = .ok (.getfield 37, 3) := by decide +kernel
theorem dX8_trials_36 : decode cX8_trials 36 = .ok (.iload_n 1, 1) := by decide +kernel
theorem dX8_trials_37 : decode cX8_trials 37 = .ok (.iload_n 2, 1) := by decide +kernel
theorem dX8_trials_38 : decode cX8_trials 38 = .ok (.invokevirtual 164, 3) := by decide +kernel
theorem dX8_trials_41 : decode cX8_trials 41 = .ok (.iload_n 3, 1) := by decide +kernel
theorem dX8_trials_42 : decode cX8_trials 42 = .ok (.ifCond .ne 14, 3) := by decide +kernel
theorem dX8_trials_45 : decode cX8_trials 45 = .ok (.aload_n 0, 1) := by decide +kernel
theorem dX8_trials_46 : decode cX8_trials 46 = .ok (.getfield 37, 3) := by decide +kernel
theorem dX8_trials_49 : decode cX8_trials 49 = .ok (.iload_n 1, 1) := by decide +kernel
theorem dX8_trials_50 : decode cX8_trials 50 = .ok (.invokevirtual 168, 3) := by decide +kernel
theorem dX8_trials_53 : decode cX8_trials 53 = .ok (.goto 12, 3) := by decide +kernel
theorem dX8_trials_56 : decode cX8_trials 56 = .ok (.aload_n 0, 1) := by decide +kernel
theorem dX8_trials_57 : decode cX8_trials 57 = .ok (.getfield 37, 3) := by decide +kernel
theorem dX8_trials_60 : decode cX8_trials 60 = .ok (.iload_n 1, 1) := by decide +kernel
theorem dX8_trials_61 : decode cX8_trials 61 = .ok (.iload_n 2, 1) := by decide +kernel
theorem dX8_trials_62 : decode cX8_trials 62 = .ok (.invokevirtual 171, 3) := by decide +kernel
theorem dX8_trials_65 : decode cX8_trials 65 = .ok (.ireturn, 1) := by decide +kernel
theorem dX8_round_0 : decode cX8_round 0 = .ok (.iload_n 1, 1) := by decide +kernel
theorem dX8_round_1 : decode cX8_round 1 = .ok (.invokestatic 88, 3) := by decide +kernel
theorem dX8_round_4 : decode cX8_round 4 = .ok (.ifCond .eq 10, 3) := by decide +kernel
theorem dX8_round_7 : decode cX8_round 7 = .ok (.iload_n 2, 1) := by decide +kernel
theorem dX8_round_8 : decode cX8_round 8 = .ok (.invokestatic 88, 3) := by decide +kernel
theorem dX8_round_11 : decode cX8_round 11 = .ok (.ifCond .ne 5, 3) := by decide +kernel
theorem dX8_round_14 : decode cX8_round 14 = .ok (.iconst (-1), 1) := by decide +kernel
theorem dX8_round_15 : decode cX8_round 15 = .ok (.ireturn, 1) := by decide +kernel
theorem dX8_round_16 : decode cX8_round 16 = .ok (.iload_n 3, 1) := by decide +kernel
theorem dX8_round_17 : decode cX8_round 17 = .ok (.iconst 0, 1) := by decide +kernel
theorem dX8_round_18 : decode cX8_round 18 = .ok (.iconst 1, 1) := by decide +kernel
theorem dX8_round_19 : decode cX8_round 19 = .ok (.invokestatic 55, 3) := by decide +kernel
theorem dX8_round_22 : decode cX8_round 22 = .ok (.ifCond .ne 6, 3) := by decide +kernel
theorem dX8_round_25 : decode cX8_round 25 = .ok (.bipush (-2), 2) := by decide +kernel
theorem dX8_round_27 : decode cX8_round 27 = .ok (.ireturn, 1) := by decide +kernel
theorem dX8_round_28 : decode cX8_round 28 = .ok (.aload_n 0, 1) := by decide +kernel
theorem dX8_round_29 : decode cX8_round 29 = .ok (.getfield 10, 3) := by decide +kernel
theorem dX8_round_32 : decode cX8_round 32 = .ok (.getfield 91, 3) := by decide +kernel
theorem dX8_round_35 : decode cX8_round 35 = .ok (.aload_n 0, 1) := by decide +kernel
theorem dX8_round_36 : decode cX8_round 36 = .ok (.getfield 10, 3) := by decide +kernel
theorem dX8_round_39 : decode cX8_round 39 = .ok (.getfield 91, 3) := by decide +kernel
theorem dX8_round_42 : decode cX8_round 42 = .ok (.getfield 105, 3) := by decide +kernel
theorem dX8_round_45 : decode cX8_round 45 = .ok (.invokevirtual 175, 3) := by decide +kernel
theorem dX8_round_48 : decode cX8_round 48 = .ok (.istore 4, 2) := by decide +kernel
theorem dX8_round_50 : decode cX8_round 50 = .ok (.iload_n 3, 1) := by decide +kernel
theorem dX8_round_51 : decode cX8_round 51 = .ok (.ifCond .ne 20, 3) := by decide +kernel
theorem dX8_round_54 : decode cX8_round 54 = .ok (.aload_n 0, 1) := by decide +kernel
theorem dX8_round_55 : decode cX8_round 55 = .ok (.getfield 10, 3) := by decide +kernel
theorem dX8_round_58 : decode cX8_round 58 = .ok (.getfield 91, 3) := by decide +kernel
theorem dX8_round_61 : decode cX8_round 61 = .ok (.iload_n 1, 1) := by decide +kernel
theorem dX8_round_62 : decode cX8_round 62 = .ok (.iload_n 2, 1) := by decide +kernel
theorem dX8_round_63 : decode cX8_round 63 = .ok (.iload 4, 2) := by decide +kernel
theorem dX8_round_65 : decode cX8_round 65 = .ok (.invokevirtual 178, 3) := by decide +kernel
theorem dX8_round_68 : decode cX8_round 68 = .ok (.goto 17, 3) := by decide +kernel
theorem dX8_round_71 : decode cX8_round 71 = .ok (.aload_n 0, 1) := by decide +kernel
theorem dX8_round_72 : decode cX8_round 72 = .ok (.getfield 10, 3) := by decide +kernel
theorem dX8_round_75 : decode cX8_round 75 = .ok (.getfield 91, 3) := by decide +kernel
theorem dX8_round_78 : decode cX8_round 78 = .ok (.iload_n 1, 1) := by decide +kernel
theorem dX8_round_79 : decode cX8_round 79 = .ok (.iload_n 2, 1) := by decide +kernel
theorem dX8_round_80 : decode cX8_round 80 = .ok (.iload 4, 2) := by decide +kernel
theorem dX8_round_82 : decode cX8_round 82 = .ok (.invokevirtual 182, 3) := by decide +kernel
theorem dX8_round_85 : decode cX8_round 85 = .ok (.ireturn, 1) := by decide +kernel
theorem dX8_shun_0 : decode cX8_shun 0 = .ok (.iload_n 1, 1) := by decide +kernel
theorem dX8_shun_1 : decode cX8_shun 1 = .ok (.invokestatic 88, 3) := by decide +kernel
theorem dX8_shun_4 : decode cX8_shun 4 = .ok (.ifCond .eq 10, 3) := by decide +kernel
theorem dX8_shun_7 : decode cX8_shun 7 = .ok (.iload_n 2, 1) := by decide +kernel
theorem dX8_shun_8 : decode cX8_shun 8 = .ok (.invokestatic 88, 3) := by decide +kernel
theorem dX8_shun_11 : decode cX8_shun 11 = .ok (.ifCond .ne 5, 3) := by decide +kernel
theorem dX8_shun_14 : decode cX8_shun 14 = .ok (.iconst (-1), 1) := by decide +kernel
theorem dX8_shun_15 : decode cX8_shun 15 = .ok (.ireturn, 1) := by decide +kernel
theorem dX8_shun_16 : decode cX8_shun 16 = .ok (.iload_n 3, 1) := by decide +kernel
theorem dX8_shun_17 : decode cX8_shun 17 = .ok (.iconst 0, 1) := by decide +kernel
theorem dX8_shun_18 : decode cX8_shun 18 = .ok (.iconst 1, 1) := by decide +kernel
theorem dX8_shun_19 : decode cX8_shun 19 = .ok (.invokestatic 55, 3) := by decide +kernel
theorem dX8_shun_22 : decode cX8_shun 22 = .ok (.ifCond .ne 6, 3) := by decide +kernel
theorem dX8_shun_25 : decode cX8_shun 25 = .ok (.bipush (-2), 2) := by decide +kernel
theorem dX8_shun_27 : decode cX8_shun 27 = .ok (.ireturn, 1) := by decide +kernel
theorem dX8_shun_28 : decode cX8_shun 28 = .ok (.aload_n 0, 1) := by decide +kernel
theorem dX8_shun_29 : decode cX8_shun 29 = .ok (.getfield 10, 3) := by decide +kernel
theorem dX8_shun_32 : decode cX8_shun 32 = .ok (.getfield 91, 3) := by decide +kernel
theorem dX8_shun_35 : decode cX8_shun 35 = .ok (.iload_n 1, 1) := by decide +kernel
theorem dX8_shun_36 : decode cX8_shun 36 = .ok (.iload_n 2, 1) := by decide +kernel
theorem dX8_shun_37 : decode cX8_shun 37 = .ok (.invokevirtual 185, 3) := by decide +kernel
theorem dX8_shun_40 : decode cX8_shun 40 = .ok (.istore 4, 2) := by decide +kernel
theorem dX8_shun_42 : decode cX8_shun 42 = .ok (.iload 4, 2) := by decide +kernel
theorem dX8_shun_44 : decode cX8_shun 44 = .ok (.bipush (-6), 2) := by decide +kernel
theorem dX8_shun_46 : decode cX8_shun 46 = .ok (.if_icmp .ne 6, 3) := by decide +kernel
theorem dX8_shun_49 : decode cX8_shun 49 = .ok (.bipush (-6), 2) := by decide +kernel
theorem dX8_shun_51 : decode cX8_shun 51 = .ok (.ireturn, 1) := by decide +kernel
theorem dX8_shun_52 : decode cX8_shun 52 = .ok (.iload_n 3, 1) := by decide +kernel
theorem dX8_shun_53 : decode cX8_shun 53 = .ok (.ifCond .ne 11, 3) := by decide +kernel
theorem dX8_shun_56 : decode cX8_shun 56 = .ok (.iload 4, 2) := by decide +kernel
theorem dX8_shun_58 : decode cX8_shun 58 = .ok (.invokestatic 73, 3) := by decide +kernel
theorem dX8_shun_61 : decode cX8_shun 61 = .ok (.goto 5, 3) := by decide +kernel
theorem dX8_shun_64 : decode cX8_shun 64 = .ok (.iload 4, 2) := by decide +kernel
theorem dX8_shun_66 : decode cX8_shun 66 = .ok (.ireturn, 1) := by decide +kernel
theorem dX8_apart_0 : decode cX8_apart 0 = .ok (.iload_n 1, 1) := by decide +kernel
theorem dX8_apart_1 : decode cX8_apart 1 = .ok (.iconst 0, 1) := by decide +kernel
theorem dX8_apart_2 : decode cX8_apart 2 = .ok (.bipush 40, 2) := by decide +kernel
theorem dX8_apart_4 : decode cX8_apart 4 = .ok (.invokestatic 55, 3) := by decide +kernel
theorem dX8_apart_7 : decode cX8_apart 7 = .ok (.ifCond .eq 12, 3) := by decide +kernel
theorem dX8_apart_10 : decode cX8_apart 10 = .ok (.iload_n 2, 1) := by decide +kernel
theorem dX8_apart_11 : decode cX8_apart 11 = .ok (.iconst 0, 1) := by decide +kernel
theorem dX8_apart_12 : decode cX8_apart 12 = .ok (.iload_n 1, 1) := by decide +kernel
theorem dX8_apart_13 : decode cX8_apart 13 = .ok (.invokestatic 55, 3) := by decide +kernel
theorem dX8_apart_16 : decode cX8_apart 16 = .ok (.ifCond .ne 6, 3) := by decide +kernel
theorem dX8_apart_19 : decode cX8_apart 19 = .ok (.bipush (-2), 2) := by decide +kernel
theorem dX8_apart_21 : decode cX8_apart 21 = .ok (.ireturn, 1) := by decide +kernel
theorem dX8_apart_22 : decode cX8_apart 22 = .ok (.iload_n 1, 1) := by decide +kernel
theorem dX8_apart_23 : decode cX8_apart 23 = .ok (.iload_n 2, 1) := by decide +kernel
theorem dX8_apart_24 : decode cX8_apart 24 = .ok (.invokestatic 188, 3) := by decide +kernel
theorem dX8_apart_27 : decode cX8_apart 27 = .ok (.ldc 191, 2) := by decide +kernel
theorem dX8_apart_29 : decode cX8_apart 29 = .ok (.irem, 1) := by decide +kernel
theorem dX8_apart_30 : decode cX8_apart 30 = .ok (.ireturn, 1) := by decide +kernel
theorem dX8_row_0 : decode cX8_row 0 = .ok (.iload_n 1, 1) := by decide +kernel
theorem dX8_row_1 : decode cX8_row 1 = .ok (.iconst 0, 1) := by decide +kernel
theorem dX8_row_2 : decode cX8_row 2 = .ok (.bipush 25, 2) := by decide +kernel
theorem dX8_row_4 : decode cX8_row 4 = .ok (.invokestatic 55, 3) := by decide +kernel
theorem dX8_row_7 : decode cX8_row 7 = .ok (.ifCond .eq 22, 3) := by decide +kernel
theorem dX8_row_10 : decode cX8_row 10 = .ok (.iload_n 2, 1) := by decide +kernel
theorem dX8_row_11 : decode cX8_row 11 = .ok (.iconst 0, 1) := by decide +kernel
theorem dX8_row_12 : decode cX8_row 12 = .ok (.iload_n 1, 1) := by decide +kernel
theorem dX8_row_13 : decode cX8_row 13 = .ok (.invokestatic 55, 3) := by decide +kernel
theorem dX8_row_16 : decode cX8_row 16 = .ok (.ifCond .eq 13, 3) := by decide +kernel
theorem dX8_row_19 : decode cX8_row 19 = .ok (.iload_n 3, 1) := by decide +kernel
theorem dX8_row_20 : decode cX8_row 20 = .ok (.iconst 0, 1) := by decide +kernel
theorem dX8_row_21 : decode cX8_row 21 = .ok (.ldc 192, 2) := by decide +kernel
theorem dX8_row_23 : decode cX8_row 23 = .ok (.invokestatic 55, 3) := by decide +kernel
theorem dX8_row_26 : decode cX8_row 26 = .ok (.ifCond .ne 6, 3) := by decide +kernel
theorem dX8_row_29 : decode cX8_row 29 = .ok (.bipush (-2), 2) := by decide +kernel
theorem dX8_row_31 : decode cX8_row 31 = .ok (.ireturn, 1) := by decide +kernel
theorem dX8_row_32 : decode cX8_row 32 = .ok (.iload_n 3, 1) := by decide +kernel
theorem dX8_row_33 : decode cX8_row 33 = .ok (.iload_n 1, 1) := by decide +kernel
theorem dX8_row_34 : decode cX8_row 34 = .ok (.iload_n 2, 1) := by decide +kernel
theorem dX8_row_35 : decode cX8_row 35 = .ok (.invokestatic 188, 3) := by decide +kernel
theorem dX8_row_38 : decode cX8_row 38 = .ok (.if_icmp .ge 12, 3) := by decide +kernel
theorem dX8_row_41 : decode cX8_row 41 = .ok (.iload_n 1, 1) := by decide +kernel
theorem dX8_row_42 : decode cX8_row 42 = .ok (.iload_n 2, 1) := by decide +kernel
theorem dX8_row_43 : decode cX8_row 43 = .ok (.iload_n 3, 1) := by decide +kernel
theorem dX8_row_44 : decode cX8_row 44 = .ok (.invokestatic 193, 3) := by decide +kernel
theorem dX8_row_47 : decode cX8_row 47 = .ok (.goto 5, 3) := by decide +kernel
theorem dX8_row_50 : decode cX8_row 50 = .ok (.bipush (-6), 2) := by decide +kernel
theorem dX8_row_52 : decode cX8_row 52 = .ok (.ireturn, 1) := by decide +kernel
theorem dX8_countRows_0 : decode cX8_countRows 0 = .ok (.iload_n 0, 1) := by decide +kernel
theorem dX8_countRows_1 : decode cX8_countRows 1 = .ok (.iload_n 1, 1) := by decide +kernel
theorem dX8_countRows_2 : decode cX8_countRows 2 = .ok (.isub, 1) := by decide +kernel
theorem dX8_countRows_3 : decode cX8_countRows 3 = .ok (.iconst 1, 1) := by decide +kernel
theorem dX8_countRows_4 : decode cX8_countRows 4 = .ok (.iadd, 1) := by decide +kernel
theorem dX8_countRows_5 : decode cX8_countRows 5 = .ok (.iload_n 1, 1) := by decide +kernel
theorem dX8_countRows_6 : decode cX8_countRows 6 = .ok (.invokestatic 196, 3) := by decide +kernel
theorem dX8_countRows_9 : decode cX8_countRows 9 = .ok (.ireturn, 1) := by decide +kernel
theorem dX8_choose_0 : decode cX8_choose 0 = .ok (.iload_n 1, 1) := by decide +kernel
theorem dX8_choose_1 : decode cX8_choose 1 = .ok (.ifCond .lt 8, 3) := by decide +kernel
theorem dX8_choose_4 : decode cX8_choose 4 = .ok (.iload_n 1, 1) := by decide +kernel
theorem dX8_choose_5 : decode cX8_choose 5 = .ok (.iload_n 0, 1) := by decide +kernel
theorem dX8_choose_6 : decode cX8_choose 6 = .ok (.if_icmp .le 5, 3) := by decide +kernel
theorem dX8_choose_9 : decode cX8_choose 9 = .ok (.iconst 0, 1) := by decide +kernel
theorem dX8_choose_10 : decode cX8_choose 10 = .ok (.ireturn, 1) := by decide +kernel
theorem dX8_choose_11 : decode cX8_choose 11 = .ok (.lconst 1, 1) := by decide +kernel
theorem dX8_choose_12 : decode cX8_choose 12 = .ok (.lstore_n 2, 1) := by decide +kernel
theorem dX8_choose_13 : decode cX8_choose 13 = .ok (.iconst 1, 1) := by decide +kernel
theorem dX8_choose_14 : decode cX8_choose 14 = .ok (.istore 4, 2) := by decide +kernel
theorem dX8_choose_16 : decode cX8_choose 16 = .ok (.iload 4, 2) := by decide +kernel
theorem dX8_choose_18 : decode cX8_choose 18 = .ok (.iload_n 1, 1) := by decide +kernel
theorem dX8_choose_19 : decode cX8_choose 19 = .ok (.if_icmp .gt 23, 3) := by decide +kernel
theorem dX8_choose_22 : decode cX8_choose 22 = .ok (.lload_n 2, 1) := by decide +kernel
theorem dX8_choose_23 : decode cX8_choose 23 = .ok (.iload_n 0, 1) := by decide +kernel
theorem dX8_choose_24 : decode cX8_choose 24 = .ok (.iload_n 1, 1) := by decide +kernel
theorem dX8_choose_25 : decode cX8_choose 25 = .ok (.isub, 1) := by decide +kernel
theorem dX8_choose_26 : decode cX8_choose 26 = .ok (.iload 4, 2) := by decide +kernel
theorem dX8_choose_28 : decode cX8_choose 28 = .ok (.iadd, 1) := by decide +kernel
theorem dX8_choose_29 : decode cX8_choose 29 = .ok (.i2l, 1) := by decide +kernel
theorem dX8_choose_30 : decode cX8_choose 30 = .ok (.lmul, 1) := by decide +kernel
theorem dX8_choose_31 : decode cX8_choose 31 = .ok (.iload 4, 2) := by decide +kernel
theorem dX8_choose_33 : decode cX8_choose 33 = .ok (.i2l, 1) := by decide +kernel
theorem dX8_choose_34 : decode cX8_choose 34 = .ok (.ldiv, 1) := by decide +kernel
theorem dX8_choose_35 : decode cX8_choose 35 = .ok (.lstore_n 2, 1) := by decide +kernel
theorem dX8_choose_36 : decode cX8_choose 36 = .ok (.iinc 4 1, 3) := by decide +kernel
theorem dX8_choose_39 : decode cX8_choose 39 = .ok (.goto (-23), 3) := by decide +kernel
theorem dX8_choose_42 : decode cX8_choose 42 = .ok (.lload_n 2, 1) := by decide +kernel
theorem dX8_choose_43 : decode cX8_choose 43 = .ok (.l2i, 1) := by decide +kernel
theorem dX8_choose_44 : decode cX8_choose 44 = .ok (.ireturn, 1) := by decide +kernel
theorem dX8_nthRow_0 : decode cX8_nthRow 0 = .ok (.iconst 0, 1) := by decide +kernel
theorem dX8_nthRow_1 : decode cX8_nthRow 1 = .ok (.istore_n 3, 1) := by decide +kernel
theorem dX8_nthRow_2 : decode cX8_nthRow 2 = .ok (.iload_n 1, 1) := by decide +kernel
theorem dX8_nthRow_3 : decode cX8_nthRow 3 = .ok (.istore 4, 2) := by decide +kernel
theorem dX8_nthRow_5 : decode cX8_nthRow 5 = .ok (.iload_n 2, 1) := by decide +kernel
theorem dX8_nthRow_6 : decode cX8_nthRow 6 = .ok (.istore 5, 2) := by decide +kernel
theorem dX8_nthRow_8 : decode cX8_nthRow 8 = .ok (.iload_n 0, 1) := by decide +kernel
theorem dX8_nthRow_9 : decode cX8_nthRow 9 = .ok (.iconst 1, 1) := by decide +kernel
theorem dX8_nthRow_10 : decode cX8_nthRow 10 = .ok (.isub, 1) := by decide +kernel
theorem dX8_nthRow_11 : decode cX8_nthRow 11 = .ok (.istore 6, 2) := by decide +kernel
theorem dX8_nthRow_13 : decode cX8_nthRow 13 = .ok (.iload 6, 2) := by decide +kernel
theorem dX8_nthRow_15 : decode cX8_nthRow 15 = .ok (.ifCond .lt 42, 3) := by decide +kernel
theorem dX8_nthRow_18 : decode cX8_nthRow 18 = .ok (.iload 6, 2) := by decide +kernel
theorem dX8_nthRow_20 : decode cX8_nthRow 20 = .ok (.iload 4, 2) := by decide +kernel
theorem dX8_nthRow_22 : decode cX8_nthRow 22 = .ok (.invokestatic 188, 3) := by decide +kernel
theorem dX8_nthRow_25 : decode cX8_nthRow 25 = .ok (.istore 7, 2) := by decide +kernel
theorem dX8_nthRow_27 : decode cX8_nthRow 27 = .ok (.iload 5, 2) := by decide +kernel
theorem dX8_nthRow_29 : decode cX8_nthRow 29 = .ok (.iload 7, 2) := by decide +kernel
theorem dX8_nthRow_31 : decode cX8_nthRow 31 = .ok (.if_icmp .lt 20, 3) := by decide +kernel
theorem dX8_nthRow_34 : decode cX8_nthRow 34 = .ok (.iload 5, 2) := by decide +kernel
theorem dX8_nthRow_36 : decode cX8_nthRow 36 = .ok (.iload 7, 2) := by decide +kernel
theorem dX8_nthRow_38 : decode cX8_nthRow 38 = .ok (.isub, 1) := by decide +kernel
theorem dX8_nthRow_39 : decode cX8_nthRow 39 = .ok (.istore 5, 2) := by decide +kernel
theorem dX8_nthRow_41 : decode cX8_nthRow 41 = .ok (.iinc 4 (-1), 3) := by decide +kernel
theorem dX8_nthRow_44 : decode cX8_nthRow 44 = .ok (.iload_n 3, 1) := by decide +kernel
theorem dX8_nthRow_45 : decode cX8_nthRow 45 = .ok (.iconst 1, 1) := by decide +kernel
theorem dX8_nthRow_46 : decode cX8_nthRow 46 = .ok (.iload 6, 2) := by decide +kernel
theorem dX8_nthRow_48 : decode cX8_nthRow 48 = .ok (.ishl, 1) := by decide +kernel
theorem dX8_nthRow_49 : decode cX8_nthRow 49 = .ok (.ior, 1) := by decide +kernel
theorem dX8_nthRow_50 : decode cX8_nthRow 50 = .ok (.istore_n 3, 1) := by decide +kernel
theorem dX8_nthRow_51 : decode cX8_nthRow 51 = .ok (.iinc 6 (-1), 3) := by decide +kernel
theorem dX8_nthRow_54 : decode cX8_nthRow 54 = .ok (.goto (-41), 3) := by decide +kernel
theorem dX8_nthRow_57 : decode cX8_nthRow 57 = .ok (.iload_n 3, 1) := by decide +kernel
theorem dX8_nthRow_58 : decode cX8_nthRow 58 = .ok (.ireturn, 1) := by decide +kernel
theorem dX8_seen_0 : decode cX8_seen 0 = .ok (.iload_n 1, 1) := by decide +kernel
theorem dX8_seen_1 : decode cX8_seen 1 = .ok (.iconst 0, 1) := by decide +kernel
theorem dX8_seen_2 : decode cX8_seen 2 = .ok (.iconst 3, 1) := by decide +kernel
theorem dX8_seen_3 : decode cX8_seen 3 = .ok (.invokestatic 55, 3) := by decide +kernel
theorem dX8_seen_6 : decode cX8_seen 6 = .ok (.ifCond .eq 13, 3) := by decide +kernel
theorem dX8_seen_9 : decode cX8_seen 9 = .ok (.iload_n 3, 1) := by decide +kernel
theorem dX8_seen_10 : decode cX8_seen 10 = .ok (.iconst 0, 1) := by decide +kernel
theorem dX8_seen_11 : decode cX8_seen 11 = .ok (.bipush 99, 2) := by decide +kernel
theorem dX8_seen_13 : decode cX8_seen 13 = .ok (.invokestatic 55, 3) := by decide +kernel
theorem dX8_seen_16 : decode cX8_seen 16 = .ok (.ifCond .ne 6, 3) := by decide +kernel
theorem dX8_seen_19 : decode cX8_seen 19 = .ok (.bipush (-2), 2) := by decide +kernel
theorem dX8_seen_21 : decode cX8_seen 21 = .ok (.ireturn, 1) := by decide +kernel
theorem dX8_seen_22 : decode cX8_seen 22 = .ok (.aload_n 0, 1) := by decide +kernel
theorem dX8_seen_23 : decode cX8_seen 23 = .ok (.getfield 10, 3) := by decide +kernel
theorem dX8_seen_26 : decode cX8_seen 26 = .ok (.getfield 199, 3) := by decide +kernel
theorem dX8_seen_29 : decode cX8_seen 29 = .ok (.getfield 203, 3) := by decide +kernel
theorem dX8_seen_32 : decode cX8_seen 32 = .ok (.bipush 8, 2) := by decide +kernel
theorem dX8_seen_34 : decode cX8_seen 34 = .ok (.if_icmp .lt 6, 3) := by decide +kernel
theorem dX8_seen_37 : decode cX8_seen 37 = .ok (.bipush (-4), 2) := by decide +kernel
theorem dX8_seen_39 : decode cX8_seen 39 = .ok (.ireturn, 1) := by decide +kernel
theorem dX8_seen_40 : decode cX8_seen 40 = .ok (.aload_n 0, 1) := by decide +kernel
theorem dX8_seen_41 : decode cX8_seen 41 = .ok (.getfield 10, 3) := by decide +kernel
theorem dX8_seen_44 : decode cX8_seen 44 = .ok (.getfield 199, 3) := by decide +kernel
theorem dX8_seen_47 : decode cX8_seen 47 = .ok (.bipush 10, 2) := by decide +kernel
theorem dX8_seen_49 : decode cX8_seen 49 = .ok (.iload_n 1, 1) := by decide +kernel
theorem dX8_seen_50 : decode cX8_seen 50 = .ok (.imul, 1) := by decide +kernel
theorem dX8_seen_51 : decode cX8_seen 51 = .ok (.iload_n 2, 1) := by decide +kernel
theorem dX8_seen_52 : decode cX8_seen 52 = .ok (.invokestatic 142, 3) := by decide +kernel
theorem dX8_seen_55 : decode cX8_seen 55 = .ok (.iadd, 1) := by decide +kernel
theorem dX8_seen_56 : decode cX8_seen 56 = .ok (.iload_n 3, 1) := by decide +kernel
theorem dX8_seen_57 : decode cX8_seen 57 = .ok (.invokevirtual 206, 3) := by decide +kernel
theorem dX8_seen_60 : decode cX8_seen 60 = .ok (.aload_n 0, 1) := by decide +kernel
theorem dX8_seen_61 : decode cX8_seen 61 = .ok (.getfield 10, 3) := by decide +kernel
theorem dX8_seen_64 : decode cX8_seen 64 = .ok (.getfield 199, 3) := by decide +kernel
theorem dX8_seen_67 : decode cX8_seen 67 = .ok (.getfield 203, 3) := by decide +kernel
theorem dX8_seen_70 : decode cX8_seen 70 = .ok (.ireturn, 1) := by decide +kernel
theorem dX8_forget_0 : decode cX8_forget 0 = .ok (.aload_n 0, 1) := by decide +kernel
theorem dX8_forget_1 : decode cX8_forget 1 = .ok (.getfield 10, 3) := by decide +kernel
theorem dX8_forget_4 : decode cX8_forget 4 = .ok (.getfield 199, 3) := by decide +kernel
theorem dX8_forget_7 : decode cX8_forget 7 = .ok (.getfield 203, 3) := by decide +kernel
theorem dX8_forget_10 : decode cX8_forget 10 = .ok (.istore_n 1, 1) := by decide +kernel
theorem dX8_forget_11 : decode cX8_forget 11 = .ok (.aload_n 0, 1) := by decide +kernel
theorem dX8_forget_12 : decode cX8_forget 12 = .ok (.getfield 10, 3) := by decide +kernel
theorem dX8_forget_15 : decode cX8_forget 15 = .ok (.getfield 199, 3) := by decide +kernel
theorem dX8_forget_18 : decode cX8_forget 18 = .ok (.iconst 0, 1) := by decide +kernel
theorem dX8_forget_19 : decode cX8_forget 19 = .ok (.putfield 203, 3) := by decide +kernel
theorem dX8_forget_22 : decode cX8_forget 22 = .ok (.iload_n 1, 1) := by decide +kernel
theorem dX8_forget_23 : decode cX8_forget 23 = .ok (.ireturn, 1) := by decide +kernel
theorem dX8_so_0 : decode cX8_so 0 = .ok (.aload_n 0, 1) := by decide +kernel
theorem dX8_so_1 : decode cX8_so 1 = .ok (.getfield 44, 3) := by decide +kernel
theorem dX8_so_4 : decode cX8_so 4 = .ok (.aload_n 0, 1) := by decide +kernel
theorem dX8_so_5 : decode cX8_so 5 = .ok (.getfield 10, 3) := by decide +kernel
theorem dX8_so_8 : decode cX8_so 8 = .ok (.getfield 199, 3) := by decide +kernel
theorem dX8_so_11 : decode cX8_so 11 = .ok (.invokevirtual 209, 3) := by decide +kernel
theorem dX8_so_14 : decode cX8_so 14 = .ok (.iload_n 1, 1) := by decide +kernel
theorem dX8_so_15 : decode cX8_so 15 = .ok (.iconst (-1), 1) := by decide +kernel
theorem dX8_so_16 : decode cX8_so 16 = .ok (.if_icmp .ne 13, 3) := by decide +kernel
theorem dX8_so_19 : decode cX8_so 19 = .ok (.aload_n 0, 1) := by decide +kernel
theorem dX8_so_20 : decode cX8_so 20 = .ok (.getfield 44, 3) := by decide +kernel
theorem dX8_so_23 : decode cX8_so 23 = .ok (.getfield 213, 3) := by decide +kernel
theorem dX8_so_26 : decode cX8_so 26 = .ok (.goto 11, 3) := by decide +kernel
theorem dX8_so_29 : decode cX8_so 29 = .ok (.aload_n 0, 1) := by decide +kernel
theorem dX8_so_30 : decode cX8_so 30 = .ok (.getfield 44, 3) := by decide +kernel
theorem dX8_so_33 : decode cX8_so 33 = .ok (.iload_n 1, 1) := by decide +kernel
theorem dX8_so_34 : decode cX8_so 34 = .ok (.invokevirtual 214, 3) := by decide +kernel
theorem dX8_so_37 : decode cX8_so 37 = .ok (.ireturn, 1) := by decide +kernel
theorem dX8_ask_0 : decode cX8_ask 0 = .ok (.iload_n 1, 1) := by decide +kernel
theorem dX8_ask_1 : decode cX8_ask 1 = .ok (.iconst 0, 1) := by decide +kernel
theorem dX8_ask_2 : decode cX8_ask 2 = .ok (.iconst 1, 1) := by decide +kernel
theorem dX8_ask_3 : decode cX8_ask 3 = .ok (.invokestatic 55, 3) := by decide +kernel
theorem dX8_ask_6 : decode cX8_ask 6 = .ok (.ifCond .ne 6, 3) := by decide +kernel
theorem dX8_ask_9 : decode cX8_ask 9 = .ok (.bipush (-2), 2) := by decide +kernel
theorem dX8_ask_11 : decode cX8_ask 11 = .ok (.ireturn, 1) := by decide +kernel
theorem dX8_ask_12 : decode cX8_ask 12 = .ok (.aload_n 0, 1) := by decide +kernel
theorem dX8_ask_13 : decode cX8_ask 13 = .ok (.getfield 44, 3) := by decide +kernel
theorem dX8_ask_16 : decode cX8_ask 16 = .ok (.aload_n 0, 1) := by decide +kernel
theorem dX8_ask_17 : decode cX8_ask 17 = .ok (.getfield 10, 3) := by decide +kernel
theorem dX8_ask_20 : decode cX8_ask 20 = .ok (.getfield 199, 3) := by decide +kernel
theorem dX8_ask_23 : decode cX8_ask 23 = .ok (.invokevirtual 209, 3) := by decide +kernel
theorem dX8_ask_26 : decode cX8_ask 26 = .ok (.aload_n 0, 1) := by decide +kernel
theorem dX8_ask_27 : decode cX8_ask 27 = .ok (.getfield 44, 3) := by decide +kernel
theorem dX8_ask_30 : decode cX8_ask 30 = .ok (.getfield 213, 3) := by decide +kernel
theorem dX8_ask_33 : decode cX8_ask 33 = .ok (.ifCond .ne 6, 3) := by decide +kernel
theorem dX8_ask_36 : decode cX8_ask 36 = .ok (.bipush (-6), 2) := by decide +kernel
theorem dX8_ask_38 : decode cX8_ask 38 = .ok (.ireturn, 1) := by decide +kernel
theorem dX8_ask_39 : decode cX8_ask 39 = .ok (.aload_n 0, 1) := by decide +kernel
theorem dX8_ask_40 : decode cX8_ask 40 = .ok (.getfield 44, 3) := by decide +kernel
theorem dX8_ask_43 : decode cX8_ask 43 = .ok (.invokevirtual 217, 3) := by decide +kernel
theorem dX8_ask_46 : decode cX8_ask 46 = .ok (.istore_n 2, 1) := by decide +kernel
theorem dX8_ask_47 : decode cX8_ask 47 = .ok (.iload_n 1, 1) := by decide +kernel
theorem dX8_ask_48 : decode cX8_ask 48 = .ok (.ifCond .ne 7, 3) := by decide +kernel
theorem dX8_ask_51 : decode cX8_ask 51 = .ok (.iload_n 2, 1) := by decide +kernel
theorem dX8_ask_52 : decode cX8_ask 52 = .ok (.goto 11, 3) := by decide +kernel
theorem dX8_ask_55 : decode cX8_ask 55 = .ok (.aload_n 0, 1) := by decide +kernel
theorem dX8_ask_56 : decode cX8_ask 56 = .ok (.getfield 44, 3) := by decide +kernel
theorem dX8_ask_59 : decode cX8_ask 59 = .ok (.iload_n 2, 1) := by decide +kernel
theorem dX8_ask_60 : decode cX8_ask 60 = .ok (.invokevirtual 220, 3) := by decide +kernel
theorem dX8_ask_63 : decode cX8_ask 63 = .ok (.ireturn, 1) := by decide +kernel
theorem dX8_jugs_0 : decode cX8_jugs 0 = .ok (.iload_n 1, 1) := by decide +kernel
theorem dX8_jugs_1 : decode cX8_jugs 1 = .ok (.iconst 0, 1) := by decide +kernel
theorem dX8_jugs_2 : decode cX8_jugs 2 = .ok (.bipush 99, 2) := by decide +kernel
theorem dX8_jugs_4 : decode cX8_jugs 4 = .ok (.invokestatic 55, 3) := by decide +kernel
theorem dX8_jugs_7 : decode cX8_jugs 7 = .ok (.ifCond .eq 22, 3) := by decide +kernel
theorem dX8_jugs_10 : decode cX8_jugs 10 = .ok (.iload_n 2, 1) := by decide +kernel
theorem dX8_jugs_11 : decode cX8_jugs 11 = .ok (.iconst 0, 1) := by decide +kernel
theorem dX8_jugs_12 : decode cX8_jugs 12 = .ok (.bipush 99, 2) := by decide +kernel
theorem dX8_jugs_14 : decode cX8_jugs 14 = .ok (.invokestatic 55, 3) := by decide +kernel
theorem dX8_jugs_17 : decode cX8_jugs 17 = .ok (.ifCond .eq 12, 3) := by decide +kernel
theorem dX8_jugs_20 : decode cX8_jugs 20 = .ok (.iload_n 3, 1) := by decide +kernel
theorem dX8_jugs_21 : decode cX8_jugs 21 = .ok (.iconst 0, 1) := by decide +kernel
theorem dX8_jugs_22 : decode cX8_jugs 22 = .ok (.iconst 1, 1) := by decide +kernel
theorem dX8_jugs_23 : decode cX8_jugs 23 = .ok (.invokestatic 55, 3) := by decide +kernel
theorem dX8_jugs_26 : decode cX8_jugs 26 = .ok (.ifCond .ne 6, 3) := by decide +kernel
theorem dX8_jugs_29 : decode cX8_jugs 29 = .ok (.bipush (-2), 2) := by decide +kernel
theorem dX8_jugs_31 : decode cX8_jugs 31 = .ok (.ireturn, 1) := by decide +kernel
theorem dX8_jugs_32 : decode cX8_jugs 32 = .ok (.iload_n 1, 1) := by decide +kernel
theorem dX8_jugs_33 : decode cX8_jugs 33 = .ok (.iload_n 2, 1) := by decide +kernel
theorem dX8_jugs_34 : decode cX8_jugs 34 = .ok (.invokestatic 223, 3) := by decide +kernel
theorem dX8_jugs_37 : decode cX8_jugs 37 = .ok (.iload_n 1, 1) := by decide +kernel
theorem dX8_jugs_38 : decode cX8_jugs 38 = .ok (.iload_n 2, 1) := by decide +kernel
theorem dX8_jugs_39 : decode cX8_jugs 39 = .ok (.invokestatic 228, 3) := by decide +kernel
theorem dX8_jugs_42 : decode cX8_jugs 42 = .ok (.invokestatic 231, 3) := by decide +kernel
theorem dX8_jugs_45 : decode cX8_jugs 45 = .ok (.istore 4, 2) := by decide +kernel
theorem dX8_jugs_47 : decode cX8_jugs 47 = .ok (.iload_n 3, 1) := by decide +kernel
theorem dX8_jugs_48 : decode cX8_jugs 48 = .ok (.ifCond .ne 21, 3) := by decide +kernel
theorem dX8_jugs_51 : decode cX8_jugs 51 = .ok (.iload 4, 2) := by decide +kernel
theorem dX8_jugs_53 : decode cX8_jugs 53 = .ok (.bipush (-6), 2) := by decide +kernel
theorem dX8_jugs_55 : decode cX8_jugs 55 = .ok (.if_icmp .eq 7, 3) := by decide +kernel
theorem dX8_jugs_58 : decode cX8_jugs 58 = .ok (.iconst 1, 1) := by decide +kernel
theorem dX8_jugs_59 : decode cX8_jugs 59 = .ok (.goto 4, 3) := by decide +kernel
theorem dX8_jugs_62 : decode cX8_jugs 62 = .ok (.iconst 0, 1) := by decide +kernel
theorem dX8_jugs_63 : decode cX8_jugs 63 = .ok (.invokestatic 142, 3) := by decide +kernel
theorem dX8_jugs_66 : decode cX8_jugs 66 = .ok (.goto 5, 3) := by decide +kernel
theorem dX8_jugs_69 : decode cX8_jugs 69 = .ok (.iload 4, 2) := by decide +kernel
theorem dX8_jugs_71 : decode cX8_jugs 71 = .ok (.ireturn, 1) := by decide +kernel
theorem dX8_odds_0 : decode cX8_odds 0 = .ok (.iload_n 1, 1) := by decide +kernel
theorem dX8_odds_1 : decode cX8_odds 1 = .ok (.iconst 1, 1) := by decide +kernel
theorem dX8_odds_2 : decode cX8_odds 2 = .ok (.bipush 9, 2) := by decide +kernel
theorem dX8_odds_4 : decode cX8_odds 4 = .ok (.invokestatic 55, 3) := by decide +kernel
theorem dX8_odds_7 : decode cX8_odds 7 = .ok (.ifCond .eq 23, 3) := by decide +kernel
theorem dX8_odds_10 : decode cX8_odds 10 = .ok (.iload_n 2, 1) := by decide +kernel
theorem dX8_odds_11 : decode cX8_odds 11 = .ok (.iconst 1, 1) := by decide +kernel
theorem dX8_odds_12 : decode cX8_odds 12 = .ok (.bipush 9, 2) := by decide +kernel
theorem dX8_odds_14 : decode cX8_odds 14 = .ok (.invokestatic 55, 3) := by decide +kernel
theorem dX8_odds_17 : decode cX8_odds 17 = .ok (.ifCond .eq 13, 3) := by decide +kernel
theorem dX8_odds_20 : decode cX8_odds 20 = .ok (.iload_n 3, 1) := by decide +kernel
theorem dX8_odds_21 : decode cX8_odds 21 = .ok (.iconst 0, 1) := by decide +kernel
theorem dX8_odds_22 : decode cX8_odds 22 = .ok (.bipush 15, 2) := by decide +kernel
theorem dX8_odds_24 : decode cX8_odds 24 = .ok (.invokestatic 55, 3) := by decide +kernel
theorem dX8_odds_27 : decode cX8_odds 27 = .ok (.ifCond .ne 7, 3) := by decide +kernel
theorem dX8_odds_30 : decode cX8_odds 30 = .ok (.ldc2_w 234, 3) := by decide +kernel
theorem dX8_odds_33 : decode cX8_odds 33 = .ok (.lreturn, 1) := by decide +kernel
theorem dX8_odds_34 : decode cX8_odds 34 = .ok (.iload 4, 2) := by decide +kernel
theorem dX8_odds_36 : decode cX8_odds 36 = .ok (.iconst 0, 1) := by decide +kernel
theorem dX8_odds_37 : decode cX8_odds 37 = .ok (.iload_n 3, 1) := by decide +kernel
theorem dX8_odds_38 : decode cX8_odds 38 = .ok (.invokestatic 55, 3) := by decide +kernel
theorem dX8_odds_41 : decode cX8_odds 41 = .ok (.ifCond .eq 13, 3) := by decide +kernel
theorem dX8_odds_44 : decode cX8_odds 44 = .ok (.iload 5, 2) := by decide +kernel
theorem dX8_odds_46 : decode cX8_odds 46 = .ok (.iconst 0, 1) := by decide +kernel
theorem dX8_odds_47 : decode cX8_odds 47 = .ok (.iconst 1, 1) := by decide +kernel
theorem dX8_odds_48 : decode cX8_odds 48 = .ok (.invokestatic 55, 3) := by decide +kernel
theorem dX8_odds_51 : decode cX8_odds 51 = .ok (.ifCond .ne 7, 3) := by decide +kernel
theorem dX8_odds_54 : decode cX8_odds 54 = .ok (.ldc2_w 234, 3) := by decide +kernel
theorem dX8_odds_57 : decode cX8_odds 57 = .ok (.lreturn, 1) := by decide +kernel
theorem dX8_odds_58 : decode cX8_odds 58 = .ok (.iload_n 1, 1) := by decide +kernel
theorem dX8_odds_59 : decode cX8_odds 59 = .ok (.i2l, 1) := by decide +kernel
theorem dX8_odds_60 : decode cX8_odds 60 = .ok (.iload_n 2, 1) := by decide +kernel
theorem dX8_odds_61 : decode cX8_odds 61 = .ok (.iload 4, 2) := by decide +kernel
theorem dX8_odds_63 : decode cX8_odds 63 = .ok (.invokestatic 236, 3) := by decide +kernel
theorem dX8_odds_66 : decode cX8_odds 66 = .ok (.lmul, 1) := by decide +kernel
theorem dX8_odds_67 : decode cX8_odds 67 = .ok (.bipush 10, 2) := by decide +kernel
theorem dX8_odds_69 : decode cX8_odds 69 = .ok (.iload_n 2, 1) := by decide +kernel
theorem dX8_odds_70 : decode cX8_odds 70 = .ok (.isub, 1) := by decide +kernel
theorem dX8_odds_71 : decode cX8_odds 71 = .ok (.iload_n 3, 1) := by decide +kernel
theorem dX8_odds_72 : decode cX8_odds 72 = .ok (.iload 4, 2) := by decide +kernel
theorem dX8_odds_74 : decode cX8_odds 74 = .ok (.isub, 1) := by decide +kernel
theorem dX8_odds_75 : decode cX8_odds 75 = .ok (.invokestatic 236, 3) := by decide +kernel
theorem dX8_odds_78 : decode cX8_odds 78 = .ok (.lmul, 1) := by decide +kernel
theorem dX8_odds_79 : decode cX8_odds 79 = .ok (.lstore 6, 2) := by decide +kernel
theorem dX8_odds_81 : decode cX8_odds 81 = .ok (.bipush 10, 2) := by decide +kernel
theorem dX8_odds_83 : decode cX8_odds 83 = .ok (.iload_n 1, 1) := by decide +kernel
theorem dX8_odds_84 : decode cX8_odds 84 = .ok (.isub, 1) := by decide +kernel
theorem dX8_odds_85 : decode cX8_odds 85 = .ok (.i2l, 1) := by decide +kernel
theorem dX8_odds_86 : decode cX8_odds 86 = .ok (.bipush 10, 2) := by decide +kernel
theorem dX8_odds_88 : decode cX8_odds 88 = .ok (.iload_n 2, 1) := by decide +kernel
theorem dX8_odds_89 : decode cX8_odds 89 = .ok (.isub, 1) := by decide +kernel
theorem dX8_odds_90 : decode cX8_odds 90 = .ok (.iload 4, 2) := by decide +kernel
theorem dX8_odds_92 : decode cX8_odds 92 = .ok (.invokestatic 236, 3) := by decide +kernel
theorem dX8_odds_95 : decode cX8_odds 95 = .ok (.lmul, 1) := by decide +kernel
theorem dX8_odds_96 : decode cX8_odds 96 = .ok (.iload_n 2, 1) := by decide +kernel
theorem dX8_odds_97 : decode cX8_odds 97 = .ok (.iload_n 3, 1) := by decide +kernel
theorem dX8_odds_98 : decode cX8_odds 98 = .ok (.iload 4, 2) := by decide +kernel
theorem dX8_odds_100 : decode cX8_odds 100 = .ok (.isub, 1) := by decide +kernel
theorem dX8_odds_101 : decode cX8_odds 101 = .ok (.invokestatic 236, 3) := by decide +kernel
theorem dX8_odds_104 : decode cX8_odds 104 = .ok (.lmul, 1) := by decide +kernel
theorem dX8_odds_105 : decode cX8_odds 105 = .ok (.lstore 8, 2) := by decide +kernel
theorem dX8_odds_107 : decode cX8_odds 107 = .ok (.lload 6, 2) := by decide +kernel
theorem dX8_odds_109 : decode cX8_odds 109 = .ok (.lload 8, 2) := by decide +kernel
theorem dX8_odds_111 : decode cX8_odds 111 = .ok (.ladd, 1) := by decide +kernel
theorem dX8_odds_112 : decode cX8_odds 112 = .ok (.lload 6, 2) := by decide +kernel
theorem dX8_odds_114 : decode cX8_odds 114 = .ok (.invokestatic 239, 3) := by decide +kernel
theorem dX8_odds_117 : decode cX8_odds 117 = .ok (.lstore 10, 2) := by decide +kernel
theorem dX8_odds_119 : decode cX8_odds 119 = .ok (.iload 5, 2) := by decide +kernel
theorem dX8_odds_121 : decode cX8_odds 121 = .ok (.ifCond .ne 8, 3) := by decide +kernel
theorem dX8_odds_124 : decode cX8_odds 124 = .ok (.lload 6, 2) := by decide +kernel
theorem dX8_odds_126 : decode cX8_odds 126 = .ok (.goto 8, 3) := by decide +kernel
theorem dX8_odds_129 : decode cX8_odds 129 = .ok (.lload 6, 2) := by decide +kernel
theorem dX8_odds_131 : decode cX8_odds 131 = .ok (.lload 8, 2) := by decide +kernel
theorem dX8_odds_133 : decode cX8_odds 133 = .ok (.ladd, 1) := by decide +kernel
theorem dX8_odds_134 : decode cX8_odds 134 = .ok (.lload 10, 2) := by decide +kernel
theorem dX8_odds_136 : decode cX8_odds 136 = .ok (.ldiv, 1) := by decide +kernel
theorem dX8_odds_137 : decode cX8_odds 137 = .ok (.lreturn, 1) := by decide +kernel
theorem dX8_year_0 : decode cX8_year 0 = .ok (.iload_n 1, 1) := by decide +kernel
theorem dX8_year_1 : decode cX8_year 1 = .ok (.iconst 0, 1) := by decide +kernel
theorem dX8_year_2 : decode cX8_year 2 = .ok (.sipush 9999, 3) := by decide +kernel
theorem dX8_year_5 : decode cX8_year 5 = .ok (.invokestatic 55, 3) := by decide +kernel
theorem dX8_year_8 : decode cX8_year 8 = .ok (.ifCond .eq 22, 3) := by decide +kernel
theorem dX8_year_11 : decode cX8_year 11 = .ok (.iload_n 2, 1) := by decide +kernel
theorem dX8_year_12 : decode cX8_year 12 = .ok (.iconst 1, 1) := by decide +kernel
theorem dX8_year_13 : decode cX8_year 13 = .ok (.bipush 99, 2) := by decide +kernel
theorem dX8_year_15 : decode cX8_year 15 = .ok (.invokestatic 55, 3) := by decide +kernel
theorem dX8_year_18 : decode cX8_year 18 = .ok (.ifCond .eq 12, 3) := by decide +kernel
theorem dX8_year_21 : decode cX8_year 21 = .ok (.iload_n 3, 1) := by decide +kernel
theorem dX8_year_22 : decode cX8_year 22 = .ok (.iconst 0, 1) := by decide +kernel
theorem dX8_year_23 : decode cX8_year 23 = .ok (.iconst 2, 1) := by decide +kernel
theorem dX8_year_24 : decode cX8_year 24 = .ok (.invokestatic 55, 3) := by decide +kernel
theorem dX8_year_27 : decode cX8_year 27 = .ok (.ifCond .ne 6, 3) := by decide +kernel
theorem dX8_year_30 : decode cX8_year 30 = .ok (.bipush (-2), 2) := by decide +kernel
theorem dX8_year_32 : decode cX8_year 32 = .ok (.ireturn, 1) := by decide +kernel
theorem dX8_year_33 : decode cX8_year 33 = .ok (.aload_n 0, 1) := by decide +kernel
theorem dX8_year_34 : decode cX8_year 34 = .ok (.getfield 30, 3) := by decide +kernel
theorem dX8_year_37 : decode cX8_year 37 = .ok (.aload_n 0, 1) := by decide +kernel
theorem dX8_year_38 : decode cX8_year 38 = .ok (.getfield 10, 3) := by decide +kernel
theorem dX8_year_41 : decode cX8_year 41 = .ok (.getfield 59, 3) := by decide +kernel
theorem dX8_year_44 : decode cX8_year 44 = .ok (.iload_n 1, 1) := by decide +kernel
theorem dX8_year_45 : decode cX8_year 45 = .ok (.iload_n 2, 1) := by decide +kernel
theorem dX8_year_46 : decode cX8_year 46 = .ok (.invokevirtual 243, 3) := by decide +kernel
theorem dX8_year_49 : decode cX8_year 49 = .ok (.aload_n 0, 1) := by decide +kernel
theorem dX8_year_50 : decode cX8_year 50 = .ok (.getfield 30, 3) := by decide +kernel
theorem dX8_year_53 : decode cX8_year 53 = .ok (.getfield 128, 3) := by decide +kernel
theorem dX8_year_56 : decode cX8_year 56 = .ok (.astore 4, 2) := by decide +kernel
theorem dX8_year_58 : decode cX8_year 58 = .ok (.iload_n 3, 1) := by decide +kernel
theorem dX8_year_59 : decode cX8_year 59 = .ok (.ifCond .ne 12, 3) := by decide +kernel
theorem dX8_year_62 : decode cX8_year 62 = .ok (.aload 4, 2) := by decide +kernel
theorem dX8_year_64 : decode cX8_year 64 = .ok (.invokevirtual 146, 3) := by decide +kernel
theorem dX8_year_67 : decode cX8_year 67 = .ok (.invokestatic 73, 3) := by decide +kernel
theorem dX8_year_70 : decode cX8_year 70 = .ok (.ireturn, 1) := by decide +kernel
theorem dX8_year_71 : decode cX8_year 71 = .ok (.iload_n 3, 1) := by decide +kernel
theorem dX8_year_72 : decode cX8_year 72 = .ok (.iconst 1, 1) := by decide +kernel
theorem dX8_year_73 : decode cX8_year 73 = .ok (.if_icmp .ne 11, 3) := by decide +kernel
theorem dX8_year_76 : decode cX8_year 76 = .ok (.aload 4, 2) := by decide +kernel
theorem dX8_year_78 : decode cX8_year 78 = .ok (.invokevirtual 247, 3) := by decide +kernel
theorem dX8_year_81 : decode cX8_year 81 = .ok (.goto 8, 3) := by decide +kernel
theorem dX8_year_84 : decode cX8_year 84 = .ok (.aload 4, 2) := by decide +kernel
theorem dX8_year_86 : decode cX8_year 86 = .ok (.getfield 79, 3) := by decide +kernel
theorem dX8_year_89 : decode cX8_year 89 = .ok (.ireturn, 1) := by decide +kernel
theorem dX8_image_0 : decode cX8_image 0 = .ok (.iload_n 1, 1) := by decide +kernel
theorem dX8_image_1 : decode cX8_image 1 = .ok (.iconst 0, 1) := by decide +kernel
theorem dX8_image_2 : decode cX8_image 2 = .ok (.iconst 1, 1) := by decide +kernel
theorem dX8_image_3 : decode cX8_image 3 = .ok (.invokestatic 55, 3) := by decide +kernel
theorem dX8_image_6 : decode cX8_image 6 = .ok (.ifCond .ne 6, 3) := by decide +kernel
theorem dX8_image_9 : decode cX8_image 9 = .ok (.bipush (-2), 2) := by decide +kernel
theorem dX8_image_11 : decode cX8_image 11 = .ok (.ireturn, 1) := by decide +kernel
theorem dX8_image_12 : decode cX8_image 12 = .ok (.aload_n 0, 1) := by decide +kernel
theorem dX8_image_13 : decode cX8_image 13 = .ok (.getfield 16, 3) := by decide +kernel
theorem dX8_image_16 : decode cX8_image 16 = .ok (.iload_n 1, 1) := by decide +kernel
theorem dX8_image_17 : decode cX8_image 17 = .ok (.aaload, 1) := by decide +kernel
theorem dX8_image_18 : decode cX8_image 18 = .ok (.astore_n 2, 1) := by decide +kernel
theorem dX8_image_19 : decode cX8_image 19 = .ok (.aload_n 2, 1) := by decide +kernel
theorem dX8_image_20 : decode cX8_image 20 = .ok (.ifnonnull 18, 3) := by decide +kernel
theorem dX8_image_23 : decode cX8_image 23 = .ok (.new 7, 3) := by decide +kernel
theorem dX8_image_26 : decode cX8_image 26 = .ok (.dup, 1) := by decide +kernel
theorem dX8_image_27 : decode cX8_image 27 = .ok (.invokespecial 9, 3) := by decide +kernel
theorem dX8_image_30 : decode cX8_image 30 = .ok (.astore_n 2, 1) := by decide +kernel
theorem dX8_image_31 : decode cX8_image 31 = .ok (.aload_n 0, 1) := by decide +kernel
theorem dX8_image_32 : decode cX8_image 32 = .ok (.getfield 16, 3) := by decide +kernel
theorem dX8_image_35 : decode cX8_image 35 = .ok (.iload_n 1, 1) := by decide +kernel
theorem dX8_image_36 : decode cX8_image 36 = .ok (.aload_n 2, 1) := by decide +kernel
theorem dX8_image_37 : decode cX8_image 37 = .ok (.aastore, 1) := by decide +kernel
theorem dX8_image_38 : decode cX8_image 38 = .ok (.aload_n 2, 1) := by decide +kernel
theorem dX8_image_39 : decode cX8_image 39 = .ok (.aload_n 0, 1) := by decide +kernel
theorem dX8_image_40 : decode cX8_image 40 = .ok (.getfield 10, 3) := by decide +kernel
theorem dX8_image_43 : decode cX8_image 43 = .ok (.invokevirtual 250, 3) := by decide +kernel
theorem dX8_image_46 : decode cX8_image 46 = .ok (.iconst 1, 1) := by decide +kernel
theorem dX8_image_47 : decode cX8_image 47 = .ok (.ireturn, 1) := by decide +kernel
theorem dX8_restore_0 : decode cX8_restore 0 = .ok (.iload_n 1, 1) := by decide +kernel
theorem dX8_restore_1 : decode cX8_restore 1 = .ok (.iconst 0, 1) := by decide +kernel
theorem dX8_restore_2 : decode cX8_restore 2 = .ok (.iconst 1, 1) := by decide +kernel
theorem dX8_restore_3 : decode cX8_restore 3 = .ok (.invokestatic 55, 3) := by decide +kernel
theorem dX8_restore_6 : decode cX8_restore 6 = .ok (.ifCond .ne 6, 3) := by decide +kernel
theorem dX8_restore_9 : decode cX8_restore 9 = .ok (.bipush (-2), 2) := by decide +kernel
theorem dX8_restore_11 : decode cX8_restore 11 = .ok (.ireturn, 1) := by decide +kernel
theorem dX8_restore_12 : decode cX8_restore 12 = .ok (.aload_n 0, 1) := by decide +kernel
theorem dX8_restore_13 : decode cX8_restore 13 = .ok (.getfield 16, 3) := by decide +kernel
theorem dX8_restore_16 : decode cX8_restore 16 = .ok (.iload_n 1, 1) := by decide +kernel
theorem dX8_restore_17 : decode cX8_restore 17 = .ok (.aaload, 1) := by decide +kernel
theorem dX8_restore_18 : decode cX8_restore 18 = .ok (.astore_n 2, 1) := by decide +kernel
theorem dX8_restore_19 : decode cX8_restore 19 = .ok (.aload_n 2, 1) := by decide +kernel
theorem dX8_restore_20 : decode cX8_restore 20 = .ok (.ifnonnull 6, 3) := by decide +kernel
theorem dX8_restore_23 : decode cX8_restore 23 = .ok (.bipush (-3), 2) := by decide +kernel
theorem dX8_restore_25 : decode cX8_restore 25 = .ok (.ireturn, 1) := by decide +kernel
theorem dX8_restore_26 : decode cX8_restore 26 = .ok (.aload_n 0, 1) := by decide +kernel
theorem dX8_restore_27 : decode cX8_restore 27 = .ok (.getfield 10, 3) := by decide +kernel
theorem dX8_restore_30 : decode cX8_restore 30 = .ok (.aload_n 2, 1) := by decide +kernel
theorem dX8_restore_31 : decode cX8_restore 31 = .ok (.invokevirtual 250, 3) := by decide +kernel
theorem dX8_restore_34 : decode cX8_restore 34 = .ok (.iconst 1, 1) := by decide +kernel
theorem dX8_restore_35 : decode cX8_restore 35 = .ok (.ireturn, 1) := by decide +kernel
theorem dX8_told_0 : decode cX8_told 0 = .ok (.iload_n 1, 1) := by decide +kernel
theorem dX8_told_1 : decode cX8_told 1 = .ok (.bipush 10, 2) := by decide +kernel
theorem dX8_told_3 : decode cX8_told 3 = .ok (.bipush 21, 2) := by decide +kernel
theorem dX8_told_5 : decode cX8_told 5 = .ok (.invokestatic 55, 3) := by decide +kernel
theorem dX8_told_8 : decode cX8_told 8 = .ok (.ifCond .eq 18, 3) := by decide +kernel
theorem dX8_told_11 : decode cX8_told 11 = .ok (.aload_n 0, 1) := by decide +kernel
theorem dX8_told_12 : decode cX8_told 12 = .ok (.getfield 10, 3) := by decide +kernel
theorem dX8_told_15 : decode cX8_told 15 = .ok (.getfield 91, 3) := by decide +kernel
theorem dX8_told_18 : decode cX8_told 18 = .ok (.iload_n 1, 1) := by decide +kernel
theorem dX8_told_19 : decode cX8_told 19 = .ok (.bipush 10, 2) := by decide +kernel
theorem dX8_told_21 : decode cX8_told 21 = .ok (.isub, 1) := by decide +kernel
theorem dX8_told_22 : decode cX8_told 22 = .ok (.invokevirtual 253, 3) := by decide +kernel
theorem dX8_told_25 : decode cX8_told 25 = .ok (.ireturn, 1) := by decide +kernel
theorem dX8_told_26 : decode cX8_told 26 = .ok (.iload_n 1, 1) := by decide +kernel
theorem dX8_told_27 : decode cX8_told 27 = .ok (.bipush 100, 2) := by decide +kernel
theorem dX8_told_29 : decode cX8_told 29 = .ok (.if_icmp .lt 19, 3) := by decide +kernel
theorem dX8_told_32 : decode cX8_told 32 = .ok (.aload_n 0, 1) := by decide +kernel
theorem dX8_told_33 : decode cX8_told 33 = .ok (.iload_n 1, 1) := by decide +kernel
theorem dX8_told_34 : decode cX8_told 34 = .ok (.bipush 100, 2) := by decide +kernel
theorem dX8_told_36 : decode cX8_told 36 = .ok (.isub, 1) := by decide +kernel
theorem dX8_told_37 : decode cX8_told 37 = .ok (.bipush 10, 2) := by decide +kernel
theorem dX8_told_39 : decode cX8_told 39 = .ok (.idiv, 1) := by decide +kernel
theorem dX8_told_40 : decode cX8_told 40 = .ok (.iload_n 1, 1) := by decide +kernel
theorem dX8_told_41 : decode cX8_told 41 = .ok (.bipush 10, 2) := by decide +kernel
theorem dX8_told_43 : decode cX8_told 43 = .ok (.irem, 1) := by decide +kernel
theorem dX8_told_44 : decode cX8_told 44 = .ok (.invokevirtual 256, 3) := by decide +kernel
theorem dX8_told_47 : decode cX8_told 47 = .ok (.ireturn, 1) := by decide +kernel
theorem dX8_told_48 : decode cX8_told 48 = .ok (.iload_n 1, 1) := by decide +kernel
theorem dX8_told_49 : decode cX8_told 49 = .ok (.tableswitch 147 0 8 #[51, 59, 70, 81, 92, 103, 114, 125, 136], 51) := by decide +kernel
theorem dX8_told_100 : decode cX8_told 100 = .ok (.aload_n 0, 1) := by decide +kernel
theorem dX8_told_101 : decode cX8_told 101 = .ok (.getfield 23, 3) := by decide +kernel
theorem dX8_told_104 : decode cX8_told 104 = .ok (.getfield 108, 3) := by decide +kernel
theorem dX8_told_107 : decode cX8_told 107 = .ok (.ireturn, 1) := by decide +kernel
theorem dX8_told_108 : decode cX8_told 108 = .ok (.aload_n 0, 1) := by decide +kernel
theorem dX8_told_109 : decode cX8_told 109 = .ok (.getfield 10, 3) := by decide +kernel
theorem dX8_told_112 : decode cX8_told 112 = .ok (.getfield 59, 3) := by decide +kernel
theorem dX8_told_115 : decode cX8_told 115 = .ok (.getfield 69, 3) := by decide +kernel
theorem dX8_told_118 : decode cX8_told 118 = .ok (.ireturn, 1) := by decide +kernel
theorem dX8_told_119 : decode cX8_told 119 = .ok (.aload_n 0, 1) := by decide +kernel
theorem dX8_told_120 : decode cX8_told 120 = .ok (.getfield 10, 3) := by decide +kernel
theorem dX8_told_123 : decode cX8_told 123 = .ok (.getfield 59, 3) := by decide +kernel
theorem dX8_told_126 : decode cX8_told 126 = .ok (.invokevirtual 146, 3) := by decide +kernel
theorem dX8_told_129 : decode cX8_told 129 = .ok (.ireturn, 1) := by decide +kernel
theorem dX8_told_130 : decode cX8_told 130 = .ok (.aload_n 0, 1) := by decide +kernel
theorem dX8_told_131 : decode cX8_told 131 = .ok (.getfield 10, 3) := by decide +kernel
theorem dX8_told_134 : decode cX8_told 134 = .ok (.getfield 59, 3) := by decide +kernel
theorem dX8_told_137 : decode cX8_told 137 = .ok (.getfield 79, 3) := by decide +kernel
theorem dX8_told_140 : decode cX8_told 140 = .ok (.ireturn, 1) := by decide +kernel
theorem dX8_told_141 : decode cX8_told 141 = .ok (.aload_n 0, 1) := by decide +kernel
theorem dX8_told_142 : decode cX8_told 142 = .ok (.getfield 10, 3) := by decide +kernel
theorem dX8_told_145 : decode cX8_told 145 = .ok (.getfield 59, 3) := by decide +kernel
theorem dX8_told_148 : decode cX8_told 148 = .ok (.getfield 82, 3) := by decide +kernel
theorem dX8_told_151 : decode cX8_told 151 = .ok (.ireturn, 1) := by decide +kernel
theorem dX8_told_152 : decode cX8_told 152 = .ok (.aload_n 0, 1) := by decide +kernel
theorem dX8_told_153 : decode cX8_told 153 = .ok (.getfield 10, 3) := by decide +kernel
theorem dX8_told_156 : decode cX8_told 156 = .ok (.getfield 59, 3) := by decide +kernel
theorem dX8_told_159 : decode cX8_told 159 = .ok (.getfield 85, 3) := by decide +kernel
theorem dX8_told_162 : decode cX8_told 162 = .ok (.ireturn, 1) := by decide +kernel
theorem dX8_told_163 : decode cX8_told 163 = .ok (.aload_n 0, 1) := by decide +kernel
theorem dX8_told_164 : decode cX8_told 164 = .ok (.getfield 10, 3) := by decide +kernel
theorem dX8_told_167 : decode cX8_told 167 = .ok (.getfield 59, 3) := by decide +kernel
theorem dX8_told_170 : decode cX8_told 170 = .ok (.getfield 152, 3) := by decide +kernel
theorem dX8_told_173 : decode cX8_told 173 = .ok (.ireturn, 1) := by decide +kernel
theorem dX8_told_174 : decode cX8_told 174 = .ok (.aload_n 0, 1) := by decide +kernel
theorem dX8_told_175 : decode cX8_told 175 = .ok (.getfield 10, 3) := by decide +kernel
theorem dX8_told_178 : decode cX8_told 178 = .ok (.getfield 91, 3) := by decide +kernel
theorem dX8_told_181 : decode cX8_told 181 = .ok (.getfield 105, 3) := by decide +kernel
theorem dX8_told_184 : decode cX8_told 184 = .ok (.ireturn, 1) := by decide +kernel
theorem dX8_told_185 : decode cX8_told 185 = .ok (.aload_n 0, 1) := by decide +kernel
theorem dX8_told_186 : decode cX8_told 186 = .ok (.getfield 10, 3) := by decide +kernel
theorem dX8_told_189 : decode cX8_told 189 = .ok (.getfield 199, 3) := by decide +kernel
theorem dX8_told_192 : decode cX8_told 192 = .ok (.getfield 203, 3) := by decide +kernel
theorem dX8_told_195 : decode cX8_told 195 = .ok (.ireturn, 1) := by decide +kernel
theorem dX8_told_196 : decode cX8_told 196 = .ok (.bipush (-2), 2) := by decide +kernel
theorem dX8_told_198 : decode cX8_told 198 = .ok (.ireturn, 1) := by decide +kernel
theorem dX8_toldOfWitness_0 : decode cX8_toldOfWitness 0 = .ok (.aload_n 0, 1) := by decide +kernel
theorem dX8_toldOfWitness_1 : decode cX8_toldOfWitness 1 = .ok (.getfield 10, 3) := by decide +kernel
theorem dX8_toldOfWitness_4 : decode cX8_toldOfWitness 4 = .ok (.getfield 59, 3) := by decide +kernel
theorem dX8_toldOfWitness_7 : decode cX8_toldOfWitness 7 = .ok (.astore_n 3, 1) := by decide +kernel
theorem dX8_toldOfWitness_8 : decode cX8_toldOfWitness 8 = .ok (.aload_n 3, 1) := by decide +kernel
theorem dX8_toldOfWitness_9 : decode cX8_toldOfWitness 9 = .ok (.iload_n 1, 1) := by decide +kernel
theorem dX8_toldOfWitness_10 : decode cX8_toldOfWitness 10 = .ok (.invokevirtual 133, 3) := by decide +kernel
theorem dX8_toldOfWitness_13 : decode cX8_toldOfWitness 13 = .ok (.ifCond .ne 6, 3) := by decide +kernel
theorem dX8_toldOfWitness_16 : decode cX8_toldOfWitness 16 = .ok (.bipush (-2), 2) := by decide +kernel
theorem dX8_toldOfWitness_18 : decode cX8_toldOfWitness 18 = .ok (.ireturn, 1) := by decide +kernel
theorem dX8_toldOfWitness_19 : decode cX8_toldOfWitness 19 = .ok (.iload_n 2, 1) := by decide +kernel
theorem dX8_toldOfWitness_20 : decode cX8_toldOfWitness 20 = .ok (.tableswitch 49 0 2 #[28, 34, 43], 28) := by decide +kernel
theorem dX8_toldOfWitness_48 : decode cX8_toldOfWitness 48 = .ok (.aload_n 3, 1) := by decide +kernel
theorem dX8_toldOfWitness_49 : decode cX8_toldOfWitness 49 = .ok (.iload_n 1, 1) := by decide +kernel
theorem dX8_toldOfWitness_50 : decode cX8_toldOfWitness 50 = .ok (.invokevirtual 259, 3) := by decide +kernel
theorem dX8_toldOfWitness_53 : decode cX8_toldOfWitness 53 = .ok (.ireturn, 1) := by decide +kernel
theorem dX8_toldOfWitness_54 : decode cX8_toldOfWitness 54 = .ok (.aload_n 3, 1) := by decide +kernel
theorem dX8_toldOfWitness_55 : decode cX8_toldOfWitness 55 = .ok (.iload_n 1, 1) := by decide +kernel
theorem dX8_toldOfWitness_56 : decode cX8_toldOfWitness 56 = .ok (.invokevirtual 139, 3) := by decide +kernel
theorem dX8_toldOfWitness_59 : decode cX8_toldOfWitness 59 = .ok (.invokestatic 142, 3) := by decide +kernel
theorem dX8_toldOfWitness_62 : decode cX8_toldOfWitness 62 = .ok (.ireturn, 1) := by decide +kernel
theorem dX8_toldOfWitness_63 : decode cX8_toldOfWitness 63 = .ok (.aload_n 3, 1) := by decide +kernel
theorem dX8_toldOfWitness_64 : decode cX8_toldOfWitness 64 = .ok (.iload_n 1, 1) := by decide +kernel
theorem dX8_toldOfWitness_65 : decode cX8_toldOfWitness 65 = .ok (.invokevirtual 136, 3) := by decide +kernel
theorem dX8_toldOfWitness_68 : decode cX8_toldOfWitness 68 = .ok (.ireturn, 1) := by decide +kernel
theorem dX8_toldOfWitness_69 : decode cX8_toldOfWitness 69 = .ok (.bipush (-2), 2) := by decide +kernel
theorem dX8_toldOfWitness_71 : decode cX8_toldOfWitness 71 = .ok (.ireturn, 1) := by decide +kernel
theorem dX8_leastWinningTimes_0 : decode cX8_leastWinningTimes 0 = .ok (.iload_n 1, 1) := by decide +kernel
theorem dX8_leastWinningTimes_1 : decode cX8_leastWinningTimes 1 = .ok (.ifCond .gt 6, 3) := by decide +kernel
theorem dX8_leastWinningTimes_4 : decode cX8_leastWinningTimes 4 = .ok (.bipush (-6), 2) := by decide +kernel
theorem dX8_leastWinningTimes_6 : decode cX8_leastWinningTimes 6 = .ok (.ireturn, 1) := by decide +kernel
theorem dX8_leastWinningTimes_7 : decode cX8_leastWinningTimes 7 = .ok (.iconst 1, 1) := by decide +kernel
theorem dX8_leastWinningTimes_8 : decode cX8_leastWinningTimes 8 = .ok (.istore_n 2, 1) := by decide +kernel
theorem dX8_leastWinningTimes_9 : decode cX8_leastWinningTimes 9 = .ok (.iload_n 2, 1) := by decide +kernel
theorem dX8_leastWinningTimes_10 : decode cX8_leastWinningTimes 10 = .ok (.iload_n 0, 1) := by decide +kernel
theorem dX8_leastWinningTimes_11 : decode cX8_leastWinningTimes 11 = .ok (.iload_n 1, 1) := by decide +kernel
theorem dX8_leastWinningTimes_12 : decode cX8_leastWinningTimes 12 = .ok (.idiv, 1) := by decide +kernel
theorem dX8_leastWinningTimes_13 : decode cX8_leastWinningTimes 13 = .ok (.if_icmp .gt 33, 3) := by decide +kernel
theorem dX8_leastWinningTimes_16 : decode cX8_leastWinningTimes 16 = .ok (.iload_n 0, 1) := by decide +kernel
theorem dX8_leastWinningTimes_17 : decode cX8_leastWinningTimes 17 = .ok (.iload_n 2, 1) := by decide +kernel
theorem dX8_leastWinningTimes_18 : decode cX8_leastWinningTimes 18 = .ok (.iload_n 1, 1) := by decide +kernel
theorem dX8_leastWinningTimes_19 : decode cX8_leastWinningTimes 19 = .ok (.imul, 1) := by decide +kernel
theorem dX8_leastWinningTimes_20 : decode cX8_leastWinningTimes 20 = .ok (.isub, 1) := by decide +kernel
theorem dX8_leastWinningTimes_21 : decode cX8_leastWinningTimes 21 = .ok (.istore_n 3, 1) := by decide +kernel
theorem dX8_leastWinningTimes_22 : decode cX8_leastWinningTimes 22 = .ok (.iload_n 3, 1) := by decide +kernel
theorem dX8_leastWinningTimes_23 : decode cX8_leastWinningTimes 23 = .ok (.iload_n 1, 1) := by decide +kernel
theorem dX8_leastWinningTimes_24 : decode cX8_leastWinningTimes 24 = .ok (.invokestatic 223, 3) := by decide +kernel
theorem dX8_leastWinningTimes_27 : decode cX8_leastWinningTimes 27 = .ok (.iload_n 3, 1) := by decide +kernel
theorem dX8_leastWinningTimes_28 : decode cX8_leastWinningTimes 28 = .ok (.iload_n 1, 1) := by decide +kernel
theorem dX8_leastWinningTimes_29 : decode cX8_leastWinningTimes 29 = .ok (.invokestatic 228, 3) := by decide +kernel
theorem dX8_leastWinningTimes_32 : decode cX8_leastWinningTimes 32 = .ok (.invokestatic 262, 3) := by decide +kernel
theorem dX8_leastWinningTimes_35 : decode cX8_leastWinningTimes 35 = .ok (.ifCond .ne 5, 3) := by decide +kernel
theorem dX8_leastWinningTimes_38 : decode cX8_leastWinningTimes 38 = .ok (.iload_n 2, 1) := by decide +kernel
theorem dX8_leastWinningTimes_39 : decode cX8_leastWinningTimes 39 = .ok (.ireturn, 1) := by decide +kernel
theorem dX8_leastWinningTimes_40 : decode cX8_leastWinningTimes 40 = .ok (.iinc 2 1, 3) := by decide +kernel
theorem dX8_leastWinningTimes_43 : decode cX8_leastWinningTimes 43 = .ok (.goto (-34), 3) := by decide +kernel
theorem dX8_leastWinningTimes_46 : decode cX8_leastWinningTimes 46 = .ok (.bipush (-6), 2) := by decide +kernel
theorem dX8_leastWinningTimes_48 : decode cX8_leastWinningTimes 48 = .ok (.ireturn, 1) := by decide +kernel
theorem dX8_nextWins_0 : decode cX8_nextWins 0 = .ok (.iload_n 0, 1) := by decide +kernel
theorem dX8_nextWins_1 : decode cX8_nextWins 1 = .ok (.istore_n 2, 1) := by decide +kernel
theorem dX8_nextWins_2 : decode cX8_nextWins 2 = .ok (.iload_n 1, 1) := by decide +kernel
theorem dX8_nextWins_3 : decode cX8_nextWins 3 = .ok (.istore_n 3, 1) := by decide +kernel
theorem dX8_nextWins_4 : decode cX8_nextWins 4 = .ok (.iconst 1, 1) := by decide +kernel
theorem dX8_nextWins_5 : decode cX8_nextWins 5 = .ok (.istore 4, 2) := by decide +kernel
theorem dX8_nextWins_7 : decode cX8_nextWins 7 = .ok (.iconst 0, 1) := by decide +kernel
theorem dX8_nextWins_8 : decode cX8_nextWins 8 = .ok (.istore 5, 2) := by decide +kernel
theorem dX8_nextWins_10 : decode cX8_nextWins 10 = .ok (.iload 5, 2) := by decide +kernel
theorem dX8_nextWins_12 : decode cX8_nextWins 12 = .ok (.bipush 99, 2) := by decide +kernel
theorem dX8_nextWins_14 : decode cX8_nextWins 14 = .ok (.if_icmp .gt 45, 3) := by decide +kernel
theorem dX8_nextWins_17 : decode cX8_nextWins 17 = .ok (.iload_n 3, 1) := by decide +kernel
theorem dX8_nextWins_18 : decode cX8_nextWins 18 = .ok (.ifCond .le 41, 3) := by decide +kernel
theorem dX8_nextWins_21 : decode cX8_nextWins 21 = .ok (.iload_n 2, 1) := by decide +kernel
theorem dX8_nextWins_22 : decode cX8_nextWins 22 = .ok (.iload_n 3, 1) := by decide +kernel
theorem dX8_nextWins_23 : decode cX8_nextWins 23 = .ok (.idiv, 1) := by decide +kernel
theorem dX8_nextWins_24 : decode cX8_nextWins 24 = .ok (.iconst 2, 1) := by decide +kernel
theorem dX8_nextWins_25 : decode cX8_nextWins 25 = .ok (.if_icmp .lt 6, 3) := by decide +kernel
theorem dX8_nextWins_28 : decode cX8_nextWins 28 = .ok (.iload 4, 2) := by decide +kernel
theorem dX8_nextWins_30 : decode cX8_nextWins 30 = .ok (.ireturn, 1) := by decide +kernel
theorem dX8_nextWins_31 : decode cX8_nextWins 31 = .ok (.iload_n 2, 1) := by decide +kernel
theorem dX8_nextWins_32 : decode cX8_nextWins 32 = .ok (.iload_n 3, 1) := by decide +kernel
theorem dX8_nextWins_33 : decode cX8_nextWins 33 = .ok (.isub, 1) := by decide +kernel
theorem dX8_nextWins_34 : decode cX8_nextWins 34 = .ok (.istore 6, 2) := by decide +kernel
theorem dX8_nextWins_36 : decode cX8_nextWins 36 = .ok (.iload_n 3, 1) := by decide +kernel
theorem dX8_nextWins_37 : decode cX8_nextWins 37 = .ok (.istore_n 2, 1) := by decide +kernel
theorem dX8_nextWins_38 : decode cX8_nextWins 38 = .ok (.iload 6, 2) := by decide +kernel
theorem dX8_nextWins_40 : decode cX8_nextWins 40 = .ok (.istore_n 3, 1) := by decide +kernel
theorem dX8_nextWins_41 : decode cX8_nextWins 41 = .ok (.iload 4, 2) := by decide +kernel
theorem dX8_nextWins_43 : decode cX8_nextWins 43 = .ok (.ifCond .ne 7, 3) := by decide +kernel
theorem dX8_nextWins_46 : decode cX8_nextWins 46 = .ok (.iconst 1, 1) := by decide +kernel
theorem dX8_nextWins_47 : decode cX8_nextWins 47 = .ok (.goto 4, 3) := by decide +kernel
theorem dX8_nextWins_50 : decode cX8_nextWins 50 = .ok (.iconst 0, 1) := by decide +kernel
theorem dX8_nextWins_51 : decode cX8_nextWins 51 = .ok (.istore 4, 2) := by decide +kernel
theorem dX8_nextWins_53 : decode cX8_nextWins 53 = .ok (.iinc 5 1, 3) := by decide +kernel
theorem dX8_nextWins_56 : decode cX8_nextWins 56 = .ok (.goto (-46), 3) := by decide +kernel
theorem dX8_nextWins_59 : decode cX8_nextWins 59 = .ok (.iload 4, 2) := by decide +kernel
theorem dX8_nextWins_61 : decode cX8_nextWins 61 = .ok (.ifCond .ne 7, 3) := by decide +kernel
theorem dX8_nextWins_64 : decode cX8_nextWins 64 = .ok (.iconst 1, 1) := by decide +kernel
theorem dX8_nextWins_65 : decode cX8_nextWins 65 = .ok (.goto 4, 3) := by decide +kernel
theorem dX8_nextWins_68 : decode cX8_nextWins 68 = .ok (.iconst 0, 1) := by decide +kernel
theorem dX8_nextWins_69 : decode cX8_nextWins 69 = .ok (.ireturn, 1) := by decide +kernel
theorem dX8_power_0 : decode cX8_power 0 = .ok (.lconst 1, 1) := by decide +kernel
theorem dX8_power_1 : decode cX8_power 1 = .ok (.lstore_n 2, 1) := by decide +kernel
theorem dX8_power_2 : decode cX8_power 2 = .ok (.iconst 0, 1) := by decide +kernel
theorem dX8_power_3 : decode cX8_power 3 = .ok (.istore 4, 2) := by decide +kernel
theorem dX8_power_5 : decode cX8_power 5 = .ok (.iload 4, 2) := by decide +kernel
theorem dX8_power_7 : decode cX8_power 7 = .ok (.iload_n 1, 1) := by decide +kernel
theorem dX8_power_8 : decode cX8_power 8 = .ok (.if_icmp .ge 14, 3) := by decide +kernel
theorem dX8_power_11 : decode cX8_power 11 = .ok (.lload_n 2, 1) := by decide +kernel
theorem dX8_power_12 : decode cX8_power 12 = .ok (.iload_n 0, 1) := by decide +kernel
theorem dX8_power_13 : decode cX8_power 13 = .ok (.i2l, 1) := by decide +kernel
theorem dX8_power_14 : decode cX8_power 14 = .ok (.lmul, 1) := by decide +kernel
theorem dX8_power_15 : decode cX8_power 15 = .ok (.lstore_n 2, 1) := by decide +kernel
theorem dX8_power_16 : decode cX8_power 16 = .ok (.iinc 4 1, 3) := by decide +kernel
theorem dX8_power_19 : decode cX8_power 19 = .ok (.goto (-14), 3) := by decide +kernel
theorem dX8_power_22 : decode cX8_power 22 = .ok (.lload_n 2, 1) := by decide +kernel
theorem dX8_power_23 : decode cX8_power 23 = .ok (.lreturn, 1) := by decide +kernel
theorem dX8_commonDivisor_0 : decode cX8_commonDivisor 0 = .ok (.lload_n 0, 1) := by decide +kernel
theorem dX8_commonDivisor_1 : decode cX8_commonDivisor 1 = .ok (.lstore 4, 2) := by decide +kernel
theorem dX8_commonDivisor_3 : decode cX8_commonDivisor 3 = .ok (.lload_n 2, 1) := by decide +kernel
theorem dX8_commonDivisor_4 : decode cX8_commonDivisor 4 = .ok (.lstore 6, 2) := by decide +kernel
theorem dX8_commonDivisor_6 : decode cX8_commonDivisor 6 = .ok (.iconst 0, 1) := by decide +kernel
theorem dX8_commonDivisor_7 : decode cX8_commonDivisor 7 = .ok (.istore 8, 2) := by decide +kernel
theorem dX8_commonDivisor_9 : decode cX8_commonDivisor 9 = .ok (.iload 8, 2) := by decide +kernel
theorem dX8_commonDivisor_11 : decode cX8_commonDivisor 11 = .ok (.sipush 1000, 3) := by decide +kernel
theorem dX8_commonDivisor_14 : decode cX8_commonDivisor 14 = .ok (.if_icmp .ge 31, 3) := by decide +kernel
theorem dX8_commonDivisor_17 : decode cX8_commonDivisor 17 = .ok (.lload 6, 2) := by decide +kernel
theorem dX8_commonDivisor_19 : decode cX8_commonDivisor 19 = .ok (.lconst 0, 1) := by decide +kernel
theorem dX8_commonDivisor_20 : decode cX8_commonDivisor 20 = .ok (.lcmp, 1) := by decide +kernel
theorem dX8_commonDivisor_21 : decode cX8_commonDivisor 21 = .ok (.ifCond .le 24, 3) := by decide +kernel
theorem dX8_commonDivisor_24 : decode cX8_commonDivisor 24 = .ok (.lload 4, 2) := by decide +kernel
theorem dX8_commonDivisor_26 : decode cX8_commonDivisor 26 = .ok (.lload 6, 2) := by decide +kernel
theorem dX8_commonDivisor_28 : decode cX8_commonDivisor 28 = .ok (.lrem, 1) := by decide +kernel
theorem dX8_commonDivisor_29 : decode cX8_commonDivisor 29 = .ok (.lstore 9, 2) := by decide +kernel
theorem dX8_commonDivisor_31 : decode cX8_commonDivisor 31 = .ok (.lload 6, 2) := by decide +kernel
theorem dX8_commonDivisor_33 : decode cX8_commonDivisor 33 = .ok (.lstore 4, 2) := by decide +kernel
theorem dX8_commonDivisor_35 : decode cX8_commonDivisor 35 = .ok (.lload 9, 2) := by decide +kernel
theorem dX8_commonDivisor_37 : decode cX8_commonDivisor 37 = .ok (.lstore 6, 2) := by decide +kernel
theorem dX8_commonDivisor_39 : decode cX8_commonDivisor 39 = .ok (.iinc 8 1, 3) := by decide +kernel
theorem dX8_commonDivisor_42 : decode cX8_commonDivisor 42 = .ok (.goto (-33), 3) := by decide +kernel
theorem dX8_commonDivisor_45 : decode cX8_commonDivisor 45 = .ok (.lload 4, 2) := by decide +kernel
theorem dX8_commonDivisor_47 : decode cX8_commonDivisor 47 = .ok (.lconst 0, 1) := by decide +kernel
theorem dX8_commonDivisor_48 : decode cX8_commonDivisor 48 = .ok (.lcmp, 1) := by decide +kernel
theorem dX8_commonDivisor_49 : decode cX8_commonDivisor 49 = .ok (.ifCond .le 8, 3) := by decide +kernel
theorem dX8_commonDivisor_52 : decode cX8_commonDivisor 52 = .ok (.lload 4, 2) := by decide +kernel
theorem dX8_commonDivisor_54 : decode cX8_commonDivisor 54 = .ok (.goto 4, 3) := by decide +kernel
theorem dX8_commonDivisor_57 : decode cX8_commonDivisor 57 = .ok (.lconst 1, 1) := by decide +kernel
theorem dX8_commonDivisor_58 : decode cX8_commonDivisor 58 = .ok (.lreturn, 1) := by decide +kernel
theorem dX8_within_0 : decode cX8_within 0 = .ok (.iload_n 0, 1) := by decide +kernel
theorem dX8_within_1 : decode cX8_within 1 = .ok (.iload_n 1, 1) := by decide +kernel
theorem dX8_within_2 : decode cX8_within 2 = .ok (.if_icmp .lt 12, 3) := by decide +kernel
theorem dX8_within_5 : decode cX8_within 5 = .ok (.iload_n 0, 1) := by decide +kernel
theorem dX8_within_6 : decode cX8_within 6 = .ok (.iload_n 2, 1) := by decide +kernel
theorem dX8_within_7 : decode cX8_within 7 = .ok (.if_icmp .gt 7, 3) := by decide +kernel
theorem dX8_within_10 : decode cX8_within 10 = .ok (.iconst 1, 1) := by decide +kernel
theorem dX8_within_11 : decode cX8_within 11 = .ok (.goto 4, 3) := by decide +kernel
theorem dX8_within_14 : decode cX8_within 14 = .ok (.iconst 0, 1) := by decide +kernel
theorem dX8_within_15 : decode cX8_within 15 = .ok (.ireturn, 1) := by decide +kernel
theorem dX8_isWitness_0 : decode cX8_isWitness 0 = .ok (.iload_n 0, 1) := by decide +kernel
theorem dX8_isWitness_1 : decode cX8_isWitness 1 = .ok (.ifCond .lt 13, 3) := by decide +kernel
theorem dX8_isWitness_4 : decode cX8_isWitness 4 = .ok (.iload_n 0, 1) := by decide +kernel
theorem dX8_isWitness_5 : decode cX8_isWitness 5 = .ok (.bipush 8, 2) := by decide +kernel
theorem dX8_isWitness_7 : decode cX8_isWitness 7 = .ok (.if_icmp .ge 7, 3) := by decide +kernel
theorem dX8_isWitness_10 : decode cX8_isWitness 10 = .ok (.iconst 1, 1) := by decide +kernel
theorem dX8_isWitness_11 : decode cX8_isWitness 11 = .ok (.goto 4, 3) := by decide +kernel
theorem dX8_isWitness_14 : decode cX8_isWitness 14 = .ok (.iconst 0, 1) := by decide +kernel
theorem dX8_isWitness_15 : decode cX8_isWitness 15 = .ok (.ireturn, 1) := by decide +kernel
theorem dX8_isPlace_0 : decode cX8_isPlace 0 = .ok (.iload_n 0, 1) := by decide +kernel
theorem dX8_isPlace_1 : decode cX8_isPlace 1 = .ok (.ifCond .lt 13, 3) := by decide +kernel
theorem dX8_isPlace_4 : decode cX8_isPlace 4 = .ok (.iload_n 0, 1) := by decide +kernel
theorem dX8_isPlace_5 : decode cX8_isPlace 5 = .ok (.bipush 16, 2) := by decide +kernel
theorem dX8_isPlace_7 : decode cX8_isPlace 7 = .ok (.if_icmp .ge 7, 3) := by decide +kernel
theorem dX8_isPlace_10 : decode cX8_isPlace 10 = .ok (.iconst 1, 1) := by decide +kernel
theorem dX8_isPlace_11 : decode cX8_isPlace 11 = .ok (.goto 4, 3) := by decide +kernel
theorem dX8_isPlace_14 : decode cX8_isPlace 14 = .ok (.iconst 0, 1) := by decide +kernel
theorem dX8_isPlace_15 : decode cX8_isPlace 15 = .ok (.ireturn, 1) := by decide +kernel
theorem dX8_isCell_0 : decode cX8_isCell 0 = .ok (.iload_n 0, 1) := by decide +kernel
theorem dX8_isCell_1 : decode cX8_isCell 1 = .ok (.ifCond .lt 13, 3) := by decide +kernel
theorem dX8_isCell_4 : decode cX8_isCell 4 = .ok (.iload_n 0, 1) := by decide +kernel
theorem dX8_isCell_5 : decode cX8_isCell 5 = .ok (.bipush 12, 2) := by decide +kernel
theorem dX8_isCell_7 : decode cX8_isCell 7 = .ok (.if_icmp .ge 7, 3) := by decide +kernel
theorem dX8_isCell_10 : decode cX8_isCell 10 = .ok (.iconst 1, 1) := by decide +kernel
theorem dX8_isCell_11 : decode cX8_isCell 11 = .ok (.goto 4, 3) := by decide +kernel
theorem dX8_isCell_14 : decode cX8_isCell 14 = .ok (.iconst 0, 1) := by decide +kernel
theorem dX8_isCell_15 : decode cX8_isCell 15 = .ok (.ireturn, 1) := by decide +kernel
theorem dX8_asNumber_0 : decode cX8_asNumber 0 = .ok (.iload_n 0, 1) := by decide +kernel
theorem dX8_asNumber_1 : decode cX8_asNumber 1 = .ok (.ifCond .eq 7, 3) := by decide +kernel
theorem dX8_asNumber_4 : decode cX8_asNumber 4 = .ok (.iconst 1, 1) := by decide +kernel
theorem dX8_asNumber_5 : decode cX8_asNumber 5 = .ok (.goto 4, 3) := by decide +kernel
theorem dX8_asNumber_8 : decode cX8_asNumber 8 = .ok (.iconst 0, 1) := by decide +kernel
theorem dX8_asNumber_9 : decode cX8_asNumber 9 = .ok (.ireturn, 1) := by decide +kernel
theorem dX8_lossAt_0 : decode cX8_lossAt 0 = .ok (.iload_n 0, 1) := by decide +kernel
theorem dX8_lossAt_1 : decode cX8_lossAt 1 = .ok (.iconst 3, 1) := by decide +kernel
theorem dX8_lossAt_2 : decode cX8_lossAt 2 = .ok (.if_icmp .le 5, 3) := by decide +kernel
theorem dX8_lossAt_5 : decode cX8_lossAt 5 = .ok (.iconst 0, 1) := by decide +kernel
theorem dX8_lossAt_6 : decode cX8_lossAt 6 = .ok (.ireturn, 1) := by decide +kernel
theorem dX8_lossAt_7 : decode cX8_lossAt 7 = .ok (.iload_n 2, 1) := by decide +kernel
theorem dX8_lossAt_8 : decode cX8_lossAt 8 = .ok (.iconst 4, 1) := by decide +kernel
theorem dX8_lossAt_9 : decode cX8_lossAt 9 = .ok (.iload_n 0, 1) := by decide +kernel
theorem dX8_lossAt_10 : decode cX8_lossAt 10 = .ok (.isub, 1) := by decide +kernel
theorem dX8_lossAt_11 : decode cX8_lossAt 11 = .ok (.imul, 1) := by decide +kernel
theorem dX8_lossAt_12 : decode cX8_lossAt 12 = .ok (.iload_n 1, 1) := by decide +kernel
theorem dX8_lossAt_13 : decode cX8_lossAt 13 = .ok (.ifCond .eq 7, 3) := by decide +kernel
theorem dX8_lossAt_16 : decode cX8_lossAt 16 = .ok (.iload_n 3, 1) := by decide +kernel
theorem dX8_lossAt_17 : decode cX8_lossAt 17 = .ok (.goto 4, 3) := by decide +kernel
theorem dX8_lossAt_20 : decode cX8_lossAt 20 = .ok (.iconst 0, 1) := by decide +kernel
theorem dX8_lossAt_21 : decode cX8_lossAt 21 = .ok (.iadd, 1) := by decide +kernel
theorem dX8_lossAt_22 : decode cX8_lossAt 22 = .ok (.ireturn, 1) := by decide +kernel
theorem dJ6_numberOfTrailingZeros_0f7a4_0 : decode cJ6_numberOfTrailingZeros_0f7a4 0 = .ok (.iload_n 0, 1) := by decide +kernel
theorem dJ6_numberOfTrailingZeros_0f7a4_1 : decode cJ6_numberOfTrailingZeros_0f7a4 1 = .ok (.iconst (-1), 1) := by decide +kernel
theorem dJ6_numberOfTrailingZeros_0f7a4_2 : decode cJ6_numberOfTrailingZeros_0f7a4 2 = .ok (.ixor, 1) := by decide +kernel
theorem dJ6_numberOfTrailingZeros_0f7a4_3 : decode cJ6_numberOfTrailingZeros_0f7a4 3 = .ok (.iload_n 0, 1) := by decide +kernel
theorem dJ6_numberOfTrailingZeros_0f7a4_4 : decode cJ6_numberOfTrailingZeros_0f7a4 4 = .ok (.iconst 1, 1) := by decide +kernel
theorem dJ6_numberOfTrailingZeros_0f7a4_5 : decode cJ6_numberOfTrailingZeros_0f7a4 5 = .ok (.isub, 1) := by decide +kernel
theorem dJ6_numberOfTrailingZeros_0f7a4_6 : decode cJ6_numberOfTrailingZeros_0f7a4 6 = .ok (.iand, 1) := by decide +kernel
theorem dJ6_numberOfTrailingZeros_0f7a4_7 : decode cJ6_numberOfTrailingZeros_0f7a4 7 = .ok (.istore_n 0, 1) := by decide +kernel
theorem dJ6_numberOfTrailingZeros_0f7a4_8 : decode cJ6_numberOfTrailingZeros_0f7a4 8 = .ok (.iload_n 0, 1) := by decide +kernel
theorem dJ6_numberOfTrailingZeros_0f7a4_9 : decode cJ6_numberOfTrailingZeros_0f7a4 9 = .ok (.ifCond .gt 8, 3) := by decide +kernel
theorem dJ6_numberOfTrailingZeros_0f7a4_12 : decode cJ6_numberOfTrailingZeros_0f7a4 12 = .ok (.iload_n 0, 1) := by decide +kernel
theorem dJ6_numberOfTrailingZeros_0f7a4_13 : decode cJ6_numberOfTrailingZeros_0f7a4 13 = .ok (.bipush 32, 2) := by decide +kernel
theorem dJ6_numberOfTrailingZeros_0f7a4_15 : decode cJ6_numberOfTrailingZeros_0f7a4 15 = .ok (.iand, 1) := by decide +kernel
theorem dJ6_numberOfTrailingZeros_0f7a4_16 : decode cJ6_numberOfTrailingZeros_0f7a4 16 = .ok (.ireturn, 1) := by decide +kernel
theorem dJ6_numberOfTrailingZeros_0f7a4_17 : decode cJ6_numberOfTrailingZeros_0f7a4 17 = .ok (.iconst 1, 1) := by decide +kernel
theorem dJ6_numberOfTrailingZeros_0f7a4_18 : decode cJ6_numberOfTrailingZeros_0f7a4 18 = .ok (.istore_n 1, 1) := by decide +kernel
theorem dJ6_numberOfTrailingZeros_0f7a4_19 : decode cJ6_numberOfTrailingZeros_0f7a4 19 = .ok (.iload_n 0, 1) := by decide +kernel
theorem dJ6_numberOfTrailingZeros_0f7a4_20 : decode cJ6_numberOfTrailingZeros_0f7a4 20 = .ok (.ldc_w 264, 3) := by decide +kernel
theorem dJ6_numberOfTrailingZeros_0f7a4_23 : decode cJ6_numberOfTrailingZeros_0f7a4 23 = .ok (.if_icmp .le 11, 3) := by decide +kernel
theorem dJ6_numberOfTrailingZeros_0f7a4_26 : decode cJ6_numberOfTrailingZeros_0f7a4 26 = .ok (.iinc 1 16, 3) := by decide +kernel
theorem dJ6_numberOfTrailingZeros_0f7a4_29 : decode cJ6_numberOfTrailingZeros_0f7a4 29 = .ok (.iload_n 0, 1) := by decide +kernel
theorem dJ6_numberOfTrailingZeros_0f7a4_30 : decode cJ6_numberOfTrailingZeros_0f7a4 30 = .ok (.bipush 16, 2) := by decide +kernel
theorem dJ6_numberOfTrailingZeros_0f7a4_32 : decode cJ6_numberOfTrailingZeros_0f7a4 32 = .ok (.iushr, 1) := by decide +kernel
theorem dJ6_numberOfTrailingZeros_0f7a4_33 : decode cJ6_numberOfTrailingZeros_0f7a4 33 = .ok (.istore_n 0, 1) := by decide +kernel
theorem dJ6_numberOfTrailingZeros_0f7a4_34 : decode cJ6_numberOfTrailingZeros_0f7a4 34 = .ok (.iload_n 0, 1) := by decide +kernel
theorem dJ6_numberOfTrailingZeros_0f7a4_35 : decode cJ6_numberOfTrailingZeros_0f7a4 35 = .ok (.sipush 256, 3) := by decide +kernel
theorem dJ6_numberOfTrailingZeros_0f7a4_38 : decode cJ6_numberOfTrailingZeros_0f7a4 38 = .ok (.if_icmp .le 11, 3) := by decide +kernel
theorem dJ6_numberOfTrailingZeros_0f7a4_41 : decode cJ6_numberOfTrailingZeros_0f7a4 41 = .ok (.iinc 1 8, 3) := by decide +kernel
theorem dJ6_numberOfTrailingZeros_0f7a4_44 : decode cJ6_numberOfTrailingZeros_0f7a4 44 = .ok (.iload_n 0, 1) := by decide +kernel
theorem dJ6_numberOfTrailingZeros_0f7a4_45 : decode cJ6_numberOfTrailingZeros_0f7a4 45 = .ok (.bipush 8, 2) := by decide +kernel
theorem dJ6_numberOfTrailingZeros_0f7a4_47 : decode cJ6_numberOfTrailingZeros_0f7a4 47 = .ok (.iushr, 1) := by decide +kernel
theorem dJ6_numberOfTrailingZeros_0f7a4_48 : decode cJ6_numberOfTrailingZeros_0f7a4 48 = .ok (.istore_n 0, 1) := by decide +kernel
theorem dJ6_numberOfTrailingZeros_0f7a4_49 : decode cJ6_numberOfTrailingZeros_0f7a4 49 = .ok (.iload_n 0, 1) := by decide +kernel
theorem dJ6_numberOfTrailingZeros_0f7a4_50 : decode cJ6_numberOfTrailingZeros_0f7a4 50 = .ok (.bipush 16, 2) := by decide +kernel
theorem dJ6_numberOfTrailingZeros_0f7a4_52 : decode cJ6_numberOfTrailingZeros_0f7a4 52 = .ok (.if_icmp .le 10, 3) := by decide +kernel
theorem dJ6_numberOfTrailingZeros_0f7a4_55 : decode cJ6_numberOfTrailingZeros_0f7a4 55 = .ok (.iinc 1 4, 3) := by decide +kernel
theorem dJ6_numberOfTrailingZeros_0f7a4_58 : decode cJ6_numberOfTrailingZeros_0f7a4 58 = .ok (.iload_n 0, 1) := by decide +kernel
theorem dJ6_numberOfTrailingZeros_0f7a4_59 : decode cJ6_numberOfTrailingZeros_0f7a4 59 = .ok (.iconst 4, 1) := by decide +kernel
theorem dJ6_numberOfTrailingZeros_0f7a4_60 : decode cJ6_numberOfTrailingZeros_0f7a4 60 = .ok (.iushr, 1) := by decide +kernel
theorem dJ6_numberOfTrailingZeros_0f7a4_61 : decode cJ6_numberOfTrailingZeros_0f7a4 61 = .ok (.istore_n 0, 1) := by decide +kernel
theorem dJ6_numberOfTrailingZeros_0f7a4_62 : decode cJ6_numberOfTrailingZeros_0f7a4 62 = .ok (.iload_n 0, 1) := by decide +kernel
theorem dJ6_numberOfTrailingZeros_0f7a4_63 : decode cJ6_numberOfTrailingZeros_0f7a4 63 = .ok (.iconst 4, 1) := by decide +kernel
theorem dJ6_numberOfTrailingZeros_0f7a4_64 : decode cJ6_numberOfTrailingZeros_0f7a4 64 = .ok (.if_icmp .le 10, 3) := by decide +kernel
theorem dJ6_numberOfTrailingZeros_0f7a4_67 : decode cJ6_numberOfTrailingZeros_0f7a4 67 = .ok (.iinc 1 2, 3) := by decide +kernel
theorem dJ6_numberOfTrailingZeros_0f7a4_70 : decode cJ6_numberOfTrailingZeros_0f7a4 70 = .ok (.iload_n 0, 1) := by decide +kernel
theorem dJ6_numberOfTrailingZeros_0f7a4_71 : decode cJ6_numberOfTrailingZeros_0f7a4 71 = .ok (.iconst 2, 1) := by decide +kernel
theorem dJ6_numberOfTrailingZeros_0f7a4_72 : decode cJ6_numberOfTrailingZeros_0f7a4 72 = .ok (.iushr, 1) := by decide +kernel
theorem dJ6_numberOfTrailingZeros_0f7a4_73 : decode cJ6_numberOfTrailingZeros_0f7a4 73 = .ok (.istore_n 0, 1) := by decide +kernel
theorem dJ6_numberOfTrailingZeros_0f7a4_74 : decode cJ6_numberOfTrailingZeros_0f7a4 74 = .ok (.iload_n 1, 1) := by decide +kernel
theorem dJ6_numberOfTrailingZeros_0f7a4_75 : decode cJ6_numberOfTrailingZeros_0f7a4 75 = .ok (.iload_n 0, 1) := by decide +kernel
theorem dJ6_numberOfTrailingZeros_0f7a4_76 : decode cJ6_numberOfTrailingZeros_0f7a4 76 = .ok (.iconst 1, 1) := by decide +kernel
theorem dJ6_numberOfTrailingZeros_0f7a4_77 : decode cJ6_numberOfTrailingZeros_0f7a4 77 = .ok (.iushr, 1) := by decide +kernel
theorem dJ6_numberOfTrailingZeros_0f7a4_78 : decode cJ6_numberOfTrailingZeros_0f7a4 78 = .ok (.iadd, 1) := by decide +kernel
theorem dJ6_numberOfTrailingZeros_0f7a4_79 : decode cJ6_numberOfTrailingZeros_0f7a4 79 = .ok (.ireturn, 1) := by decide +kernel
theorem dJ6_bitCount_0f7a4_0 : decode cJ6_bitCount_0f7a4 0 = .ok (.iload_n 0, 1) := by decide +kernel
theorem dJ6_bitCount_0f7a4_1 : decode cJ6_bitCount_0f7a4 1 = .ok (.iload_n 0, 1) := by decide +kernel
theorem dJ6_bitCount_0f7a4_2 : decode cJ6_bitCount_0f7a4 2 = .ok (.iconst 1, 1) := by decide +kernel
theorem dJ6_bitCount_0f7a4_3 : decode cJ6_bitCount_0f7a4 3 = .ok (.iushr, 1) := by decide +kernel
theorem dJ6_bitCount_0f7a4_4 : decode cJ6_bitCount_0f7a4 4 = .ok (.ldc_w 265, 3) := by decide +kernel
theorem dJ6_bitCount_0f7a4_7 : decode cJ6_bitCount_0f7a4 7 = .ok (.iand, 1) := by decide +kernel
theorem dJ6_bitCount_0f7a4_8 : decode cJ6_bitCount_0f7a4 8 = .ok (.isub, 1) := by decide +kernel
theorem dJ6_bitCount_0f7a4_9 : decode cJ6_bitCount_0f7a4 9 = .ok (.istore_n 0, 1) := by decide +kernel
theorem dJ6_bitCount_0f7a4_10 : decode cJ6_bitCount_0f7a4 10 = .ok (.iload_n 0, 1) := by decide +kernel
theorem dJ6_bitCount_0f7a4_11 : decode cJ6_bitCount_0f7a4 11 = .ok (.ldc_w 266, 3) := by decide +kernel
theorem dJ6_bitCount_0f7a4_14 : decode cJ6_bitCount_0f7a4 14 = .ok (.iand, 1) := by decide +kernel
theorem dJ6_bitCount_0f7a4_15 : decode cJ6_bitCount_0f7a4 15 = .ok (.iload_n 0, 1) := by decide +kernel
theorem dJ6_bitCount_0f7a4_16 : decode cJ6_bitCount_0f7a4 16 = .ok (.iconst 2, 1) := by decide +kernel
theorem dJ6_bitCount_0f7a4_17 : decode cJ6_bitCount_0f7a4 17 = .ok (.iushr, 1) := by decide +kernel
theorem dJ6_bitCount_0f7a4_18 : decode cJ6_bitCount_0f7a4 18 = .ok (.ldc_w 266, 3) := by decide +kernel
theorem dJ6_bitCount_0f7a4_21 : decode cJ6_bitCount_0f7a4 21 = .ok (.iand, 1) := by decide +kernel
theorem dJ6_bitCount_0f7a4_22 : decode cJ6_bitCount_0f7a4 22 = .ok (.iadd, 1) := by decide +kernel
theorem dJ6_bitCount_0f7a4_23 : decode cJ6_bitCount_0f7a4 23 = .ok (.istore_n 0, 1) := by decide +kernel
theorem dJ6_bitCount_0f7a4_24 : decode cJ6_bitCount_0f7a4 24 = .ok (.iload_n 0, 1) := by decide +kernel
theorem dJ6_bitCount_0f7a4_25 : decode cJ6_bitCount_0f7a4 25 = .ok (.iload_n 0, 1) := by decide +kernel
theorem dJ6_bitCount_0f7a4_26 : decode cJ6_bitCount_0f7a4 26 = .ok (.iconst 4, 1) := by decide +kernel
theorem dJ6_bitCount_0f7a4_27 : decode cJ6_bitCount_0f7a4 27 = .ok (.iushr, 1) := by decide +kernel
theorem dJ6_bitCount_0f7a4_28 : decode cJ6_bitCount_0f7a4 28 = .ok (.iadd, 1) := by decide +kernel
theorem dJ6_bitCount_0f7a4_29 : decode cJ6_bitCount_0f7a4 29 = .ok (.ldc_w 267, 3) := by decide +kernel
theorem dJ6_bitCount_0f7a4_32 : decode cJ6_bitCount_0f7a4 32 = .ok (.iand, 1) := by decide +kernel
theorem dJ6_bitCount_0f7a4_33 : decode cJ6_bitCount_0f7a4 33 = .ok (.istore_n 0, 1) := by decide +kernel
theorem dJ6_bitCount_0f7a4_34 : decode cJ6_bitCount_0f7a4 34 = .ok (.iload_n 0, 1) := by decide +kernel
theorem dJ6_bitCount_0f7a4_35 : decode cJ6_bitCount_0f7a4 35 = .ok (.iload_n 0, 1) := by decide +kernel
theorem dJ6_bitCount_0f7a4_36 : decode cJ6_bitCount_0f7a4 36 = .ok (.bipush 8, 2) := by decide +kernel
theorem dJ6_bitCount_0f7a4_38 : decode cJ6_bitCount_0f7a4 38 = .ok (.iushr, 1) := by decide +kernel
theorem dJ6_bitCount_0f7a4_39 : decode cJ6_bitCount_0f7a4 39 = .ok (.iadd, 1) := by decide +kernel
theorem dJ6_bitCount_0f7a4_40 : decode cJ6_bitCount_0f7a4 40 = .ok (.istore_n 0, 1) := by decide +kernel
theorem dJ6_bitCount_0f7a4_41 : decode cJ6_bitCount_0f7a4 41 = .ok (.iload_n 0, 1) := by decide +kernel
theorem dJ6_bitCount_0f7a4_42 : decode cJ6_bitCount_0f7a4 42 = .ok (.iload_n 0, 1) := by decide +kernel
theorem dJ6_bitCount_0f7a4_43 : decode cJ6_bitCount_0f7a4 43 = .ok (.bipush 16, 2) := by decide +kernel
theorem dJ6_bitCount_0f7a4_45 : decode cJ6_bitCount_0f7a4 45 = .ok (.iushr, 1) := by decide +kernel
theorem dJ6_bitCount_0f7a4_46 : decode cJ6_bitCount_0f7a4 46 = .ok (.iadd, 1) := by decide +kernel
theorem dJ6_bitCount_0f7a4_47 : decode cJ6_bitCount_0f7a4 47 = .ok (.istore_n 0, 1) := by decide +kernel
theorem dJ6_bitCount_0f7a4_48 : decode cJ6_bitCount_0f7a4 48 = .ok (.iload_n 0, 1) := by decide +kernel
theorem dJ6_bitCount_0f7a4_49 : decode cJ6_bitCount_0f7a4 49 = .ok (.bipush 63, 2) := by decide +kernel
theorem dJ6_bitCount_0f7a4_51 : decode cJ6_bitCount_0f7a4 51 = .ok (.iand, 1) := by decide +kernel
theorem dJ6_bitCount_0f7a4_52 : decode cJ6_bitCount_0f7a4 52 = .ok (.ireturn, 1) := by decide +kernel
theorem dJ9_abs_0f7a4_0 : decode cJ9_abs_0f7a4 0 = .ok (.iload_n 0, 1) := by decide +kernel
theorem dJ9_abs_0f7a4_1 : decode cJ9_abs_0f7a4 1 = .ok (.ifCond .ge 8, 3) := by decide +kernel
theorem dJ9_abs_0f7a4_4 : decode cJ9_abs_0f7a4 4 = .ok (.iload_n 0, 1) := by decide +kernel
theorem dJ9_abs_0f7a4_5 : decode cJ9_abs_0f7a4 5 = .ok (.ineg, 1) := by decide +kernel
theorem dJ9_abs_0f7a4_6 : decode cJ9_abs_0f7a4 6 = .ok (.goto 4, 3) := by decide +kernel
theorem dJ9_abs_0f7a4_9 : decode cJ9_abs_0f7a4 9 = .ok (.iload_n 0, 1) := by decide +kernel
theorem dJ9_abs_0f7a4_10 : decode cJ9_abs_0f7a4 10 = .ok (.ireturn, 1) := by decide +kernel
theorem dJ9_max_7cf53_0 : decode cJ9_max_7cf53 0 = .ok (.iload_n 0, 1) := by decide +kernel
theorem dJ9_max_7cf53_1 : decode cJ9_max_7cf53 1 = .ok (.iload_n 1, 1) := by decide +kernel
theorem dJ9_max_7cf53_2 : decode cJ9_max_7cf53 2 = .ok (.if_icmp .lt 7, 3) := by decide +kernel
theorem dJ9_max_7cf53_5 : decode cJ9_max_7cf53 5 = .ok (.iload_n 0, 1) := by decide +kernel
theorem dJ9_max_7cf53_6 : decode cJ9_max_7cf53 6 = .ok (.goto 4, 3) := by decide +kernel
theorem dJ9_max_7cf53_9 : decode cJ9_max_7cf53 9 = .ok (.iload_n 1, 1) := by decide +kernel
theorem dJ9_max_7cf53_10 : decode cJ9_max_7cf53 10 = .ok (.ireturn, 1) := by decide +kernel
theorem dJ9_min_7cf53_0 : decode cJ9_min_7cf53 0 = .ok (.iload_n 0, 1) := by decide +kernel
theorem dJ9_min_7cf53_1 : decode cJ9_min_7cf53 1 = .ok (.iload_n 1, 1) := by decide +kernel
theorem dJ9_min_7cf53_2 : decode cJ9_min_7cf53 2 = .ok (.if_icmp .gt 7, 3) := by decide +kernel
theorem dJ9_min_7cf53_5 : decode cJ9_min_7cf53 5 = .ok (.iload_n 0, 1) := by decide +kernel
theorem dJ9_min_7cf53_6 : decode cJ9_min_7cf53 6 = .ok (.goto 4, 3) := by decide +kernel
theorem dJ9_min_7cf53_9 : decode cJ9_min_7cf53 9 = .ok (.iload_n 1, 1) := by decide +kernel
theorem dJ9_min_7cf53_10 : decode cJ9_min_7cf53 10 = .ok (.ireturn, 1) := by decide +kernel
theorem dJ7_fill_53178_0 : decode cJ7_fill_53178 0 = .ok (.iconst 0, 1) := by decide +kernel
theorem dJ7_fill_53178_1 : decode cJ7_fill_53178 1 = .ok (.istore_n 2, 1) := by decide +kernel
theorem dJ7_fill_53178_2 : decode cJ7_fill_53178 2 = .ok (.aload_n 0, 1) := by decide +kernel
theorem dJ7_fill_53178_3 : decode cJ7_fill_53178 3 = .ok (.arraylength, 1) := by decide +kernel
theorem dJ7_fill_53178_4 : decode cJ7_fill_53178 4 = .ok (.istore_n 3, 1) := by decide +kernel
theorem dJ7_fill_53178_5 : decode cJ7_fill_53178 5 = .ok (.iload_n 2, 1) := by decide +kernel
theorem dJ7_fill_53178_6 : decode cJ7_fill_53178 6 = .ok (.iload_n 3, 1) := by decide +kernel
theorem dJ7_fill_53178_7 : decode cJ7_fill_53178 7 = .ok (.if_icmp .ge 13, 3) := by decide +kernel
theorem dJ7_fill_53178_10 : decode cJ7_fill_53178 10 = .ok (.aload_n 0, 1) := by decide +kernel
theorem dJ7_fill_53178_11 : decode cJ7_fill_53178 11 = .ok (.iload_n 2, 1) := by decide +kernel
theorem dJ7_fill_53178_12 : decode cJ7_fill_53178 12 = .ok (.iload_n 1, 1) := by decide +kernel
theorem dJ7_fill_53178_13 : decode cJ7_fill_53178 13 = .ok (.iastore, 1) := by decide +kernel
theorem dJ7_fill_53178_14 : decode cJ7_fill_53178 14 = .ok (.iinc 2 1, 3) := by decide +kernel
theorem dJ7_fill_53178_17 : decode cJ7_fill_53178 17 = .ok (.goto (-12), 3) := by decide +kernel
theorem dJ7_fill_53178_20 : decode cJ7_fill_53178 20 = .ok (.return_, 1) := by decide +kernel
theorem dL_law_0 : decode cL_law 0 = .ok (.new 7, 3) := by decide +kernel
theorem dL_law_3 : decode cL_law 3 = .ok (.dup, 1) := by decide +kernel
theorem dL_law_4 : decode cL_law 4 = .ok (.invokespecial 9, 3) := by decide +kernel
theorem dL_law_7 : decode cL_law 7 = .ok (.astore_n 1, 1) := by decide +kernel
theorem dL_law_8 : decode cL_law 8 = .ok (.new 10, 3) := by decide +kernel
theorem dL_law_11 : decode cL_law 11 = .ok (.dup, 1) := by decide +kernel
theorem dL_law_12 : decode cL_law 12 = .ok (.invokespecial 12, 3) := by decide +kernel
theorem dL_law_15 : decode cL_law 15 = .ok (.astore_n 2, 1) := by decide +kernel
theorem dL_law_16 : decode cL_law 16 = .ok (.iconst 0, 1) := by decide +kernel
theorem dL_law_17 : decode cL_law 17 = .ok (.istore_n 3, 1) := by decide +kernel
theorem dL_law_18 : decode cL_law 18 = .ok (.iload_n 3, 1) := by decide +kernel
theorem dL_law_19 : decode cL_law 19 = .ok (.aload_n 0, 1) := by decide +kernel
theorem dL_law_20 : decode cL_law 20 = .ok (.arraylength, 1) := by decide +kernel
theorem dL_law_21 : decode cL_law 21 = .ok (.bipush 6, 2) := by decide +kernel
theorem dL_law_23 : decode cL_law 23 = .ok (.isub, 1) := by decide +kernel
theorem dL_law_24 : decode cL_law 24 = .ok (.if_icmp .gt 1038, 3) := by decide +kernel
theorem dL_law_27 : decode cL_law 27 = .ok (.aload_n 0, 1) := by decide +kernel
theorem dL_law_28 : decode cL_law 28 = .ok (.iload_n 3, 1) := by decide +kernel
theorem dL_law_29 : decode cL_law 29 = .ok (.iaload, 1) := by decide +kernel
theorem dL_law_30 : decode cL_law 30 = .ok (.bipush 31, 2) := by decide +kernel
theorem dL_law_32 : decode cL_law 32 = .ok (.iand, 1) := by decide +kernel
theorem dL_law_33 : decode cL_law 33 = .ok (.tableswitch 1023 0 26 #[123, 192, 235, 294, 317, 340, 353, 366, 389, 402, 435, 458, 481, 524, 567, 610, 643, 686, 745, 758, 781, 804, 847, 911, 954, 977, 1000], 123) := by decide +kernel
theorem dL_law_156 : decode cL_law 156 = .ok (.aload_n 1, 1) := by decide +kernel
theorem dL_law_157 : decode cL_law 157 = .ok (.aload_n 0, 1) := by decide +kernel
theorem dL_law_158 : decode cL_law 158 = .ok (.iload_n 3, 1) := by decide +kernel
theorem dL_law_159 : decode cL_law 159 = .ok (.iconst 1, 1) := by decide +kernel
theorem dL_law_160 : decode cL_law 160 = .ok (.iadd, 1) := by decide +kernel
theorem dL_law_161 : decode cL_law 161 = .ok (.iaload, 1) := by decide +kernel
theorem dL_law_162 : decode cL_law 162 = .ok (.aload_n 0, 1) := by decide +kernel
theorem dL_law_163 : decode cL_law 163 = .ok (.iload_n 3, 1) := by decide +kernel
theorem dL_law_164 : decode cL_law 164 = .ok (.iconst 2, 1) := by decide +kernel
theorem dL_law_165 : decode cL_law 165 = .ok (.iadd, 1) := by decide +kernel
theorem dL_law_166 : decode cL_law 166 = .ok (.iaload, 1) := by decide +kernel
theorem dL_law_167 : decode cL_law 167 = .ok (.aload_n 0, 1) := by decide +kernel
theorem dL_law_168 : decode cL_law 168 = .ok (.iload_n 3, 1) := by decide +kernel
theorem dL_law_169 : decode cL_law 169 = .ok (.iconst 3, 1) := by decide +kernel
theorem dL_law_170 : decode cL_law 170 = .ok (.iadd, 1) := by decide +kernel
theorem dL_law_171 : decode cL_law 171 = .ok (.iaload, 1) := by decide +kernel
theorem dL_law_172 : decode cL_law 172 = .ok (.ifCond .eq 7, 3) := by decide +kernel
theorem dL_law_175 : decode cL_law 175 = .ok (.iconst 1, 1) := by decide +kernel
theorem dL_law_176 : decode cL_law 176 = .ok (.goto 4, 3) := by decide +kernel
theorem dL_law_179 : decode cL_law 179 = .ok (.iconst 0, 1) := by decide +kernel
theorem dL_law_180 : decode cL_law 180 = .ok (.aload_n 0, 1) := by decide +kernel
theorem dL_law_181 : decode cL_law 181 = .ok (.iload_n 3, 1) := by decide +kernel
theorem dL_law_182 : decode cL_law 182 = .ok (.iconst 4, 1) := by decide +kernel
theorem dL_law_183 : decode cL_law 183 = .ok (.iadd, 1) := by decide +kernel
theorem dL_law_184 : decode cL_law 184 = .ok (.iaload, 1) := by decide +kernel
theorem dL_law_185 : decode cL_law 185 = .ok (.invokevirtual 13, 3) := by decide +kernel
theorem dL_law_188 : decode cL_law 188 = .ok (.aload_n 2, 1) := by decide +kernel
theorem dL_law_189 : decode cL_law 189 = .ok (.aload_n 0, 1) := by decide +kernel
theorem dL_law_190 : decode cL_law 190 = .ok (.iload_n 3, 1) := by decide +kernel
theorem dL_law_191 : decode cL_law 191 = .ok (.iconst 1, 1) := by decide +kernel
theorem dL_law_192 : decode cL_law 192 = .ok (.iadd, 1) := by decide +kernel
theorem dL_law_193 : decode cL_law 193 = .ok (.iaload, 1) := by decide +kernel
theorem dL_law_194 : decode cL_law 194 = .ok (.aload_n 0, 1) := by decide +kernel
theorem dL_law_195 : decode cL_law 195 = .ok (.iload_n 3, 1) := by decide +kernel
theorem dL_law_196 : decode cL_law 196 = .ok (.iconst 2, 1) := by decide +kernel
theorem dL_law_197 : decode cL_law 197 = .ok (.iadd, 1) := by decide +kernel
theorem dL_law_198 : decode cL_law 198 = .ok (.iaload, 1) := by decide +kernel
theorem dL_law_199 : decode cL_law 199 = .ok (.aload_n 0, 1) := by decide +kernel
theorem dL_law_200 : decode cL_law 200 = .ok (.iload_n 3, 1) := by decide +kernel
theorem dL_law_201 : decode cL_law 201 = .ok (.iconst 3, 1) := by decide +kernel
theorem dL_law_202 : decode cL_law 202 = .ok (.iadd, 1) := by decide +kernel
theorem dL_law_203 : decode cL_law 203 = .ok (.iaload, 1) := by decide +kernel
theorem dL_law_204 : decode cL_law 204 = .ok (.ifCond .eq 7, 3) := by decide +kernel
theorem dL_law_207 : decode cL_law 207 = .ok (.iconst 1, 1) := by decide +kernel
theorem dL_law_208 : decode cL_law 208 = .ok (.goto 4, 3) := by decide +kernel
theorem dL_law_211 : decode cL_law 211 = .ok (.iconst 0, 1) := by decide +kernel
theorem dL_law_212 : decode cL_law 212 = .ok (.aload_n 0, 1) := by decide +kernel
theorem dL_law_213 : decode cL_law 213 = .ok (.iload_n 3, 1) := by decide +kernel
theorem dL_law_214 : decode cL_law 214 = .ok (.iconst 4, 1) := by decide +kernel
theorem dL_law_215 : decode cL_law 215 = .ok (.iadd, 1) := by decide +kernel
theorem dL_law_216 : decode cL_law 216 = .ok (.iaload, 1) := by decide +kernel
theorem dL_law_217 : decode cL_law 217 = .ok (.invokevirtual 17, 3) := by decide +kernel
theorem dL_law_220 : decode cL_law 220 = .ok (.if_icmp .eq 836, 3) := by decide +kernel
theorem dL_law_223 : decode cL_law 223 = .ok (.iconst 0, 1) := by decide +kernel
theorem dL_law_224 : decode cL_law 224 = .ok (.ireturn, 1) := by decide +kernel
theorem dL_law_225 : decode cL_law 225 = .ok (.aload_n 1, 1) := by decide +kernel
theorem dL_law_226 : decode cL_law 226 = .ok (.aload_n 0, 1) := by decide +kernel
theorem dL_law_227 : decode cL_law 227 = .ok (.iload_n 3, 1) := by decide +kernel
theorem dL_law_228 : decode cL_law 228 = .ok (.iconst 1, 1) := by decide +kernel
theorem dL_law_229 : decode cL_law 229 = .ok (.iadd, 1) := by decide +kernel
theorem dL_law_230 : decode cL_law 230 = .ok (.iaload, 1) := by decide +kernel
theorem dL_law_231 : decode cL_law 231 = .ok (.aload_n 0, 1) := by decide +kernel
theorem dL_law_232 : decode cL_law 232 = .ok (.iload_n 3, 1) := by decide +kernel
theorem dL_law_233 : decode cL_law 233 = .ok (.iconst 2, 1) := by decide +kernel
theorem dL_law_234 : decode cL_law 234 = .ok (.iadd, 1) := by decide +kernel
theorem dL_law_235 : decode cL_law 235 = .ok (.iaload, 1) := by decide +kernel
theorem dL_law_236 : decode cL_law 236 = .ok (.aload_n 0, 1) := by decide +kernel
theorem dL_law_237 : decode cL_law 237 = .ok (.iload_n 3, 1) := by decide +kernel
theorem dL_law_238 : decode cL_law 238 = .ok (.iconst 3, 1) := by decide +kernel
theorem dL_law_239 : decode cL_law 239 = .ok (.iadd, 1) := by decide +kernel
theorem dL_law_240 : decode cL_law 240 = .ok (.iaload, 1) := by decide +kernel
theorem dL_law_241 : decode cL_law 241 = .ok (.invokevirtual 18, 3) := by decide +kernel
theorem dL_law_244 : decode cL_law 244 = .ok (.aload_n 2, 1) := by decide +kernel
theorem dL_law_245 : decode cL_law 245 = .ok (.aload_n 0, 1) := by decide +kernel
theorem dL_law_246 : decode cL_law 246 = .ok (.iload_n 3, 1) := by decide +kernel
theorem dL_law_247 : decode cL_law 247 = .ok (.iconst 1, 1) := by decide +kernel
theorem dL_law_248 : decode cL_law 248 = .ok (.iadd, 1) := by decide +kernel
theorem dL_law_249 : decode cL_law 249 = .ok (.iaload, 1) := by decide +kernel
theorem dL_law_250 : decode cL_law 250 = .ok (.aload_n 0, 1) := by decide +kernel
theorem dL_law_251 : decode cL_law 251 = .ok (.iload_n 3, 1) := by decide +kernel
theorem dL_law_252 : decode cL_law 252 = .ok (.iconst 2, 1) := by decide +kernel
theorem dL_law_253 : decode cL_law 253 = .ok (.iadd, 1) := by decide +kernel
theorem dL_law_254 : decode cL_law 254 = .ok (.iaload, 1) := by decide +kernel
theorem dL_law_255 : decode cL_law 255 = .ok (.aload_n 0, 1) := by decide +kernel
theorem dL_law_256 : decode cL_law 256 = .ok (.iload_n 3, 1) := by decide +kernel
theorem dL_law_257 : decode cL_law 257 = .ok (.iconst 3, 1) := by decide +kernel
theorem dL_law_258 : decode cL_law 258 = .ok (.iadd, 1) := by decide +kernel
theorem dL_law_259 : decode cL_law 259 = .ok (.iaload, 1) := by decide +kernel
theorem dL_law_260 : decode cL_law 260 = .ok (.invokevirtual 22, 3) := by decide +kernel
theorem dL_law_263 : decode cL_law 263 = .ok (.if_icmp .eq 793, 3) := by decide +kernel
theorem dL_law_266 : decode cL_law 266 = .ok (.iconst 0, 1) := by decide +kernel
theorem dL_law_267 : decode cL_law 267 = .ok (.ireturn, 1) := by decide +kernel
theorem dL_law_268 : decode cL_law 268 = .ok (.aload_n 1, 1) := by decide +kernel
theorem dL_law_269 : decode cL_law 269 = .ok (.aload_n 0, 1) := by decide +kernel
theorem dL_law_270 : decode cL_law 270 = .ok (.iload_n 3, 1) := by decide +kernel
theorem dL_law_271 : decode cL_law 271 = .ok (.iconst 1, 1) := by decide +kernel
theorem dL_law_272 : decode cL_law 272 = .ok (.iadd, 1) := by decide +kernel
theorem dL_law_273 : decode cL_law 273 = .ok (.iaload, 1) := by decide +kernel
theorem dL_law_274 : decode cL_law 274 = .ok (.aload_n 0, 1) := by decide +kernel
theorem dL_law_275 : decode cL_law 275 = .ok (.iload_n 3, 1) := by decide +kernel
theorem dL_law_276 : decode cL_law 276 = .ok (.iconst 2, 1) := by decide +kernel
theorem dL_law_277 : decode cL_law 277 = .ok (.iadd, 1) := by decide +kernel
theorem dL_law_278 : decode cL_law 278 = .ok (.iaload, 1) := by decide +kernel
theorem dL_law_279 : decode cL_law 279 = .ok (.aload_n 0, 1) := by decide +kernel
theorem dL_law_280 : decode cL_law 280 = .ok (.iload_n 3, 1) := by decide +kernel
theorem dL_law_281 : decode cL_law 281 = .ok (.iconst 3, 1) := by decide +kernel
theorem dL_law_282 : decode cL_law 282 = .ok (.iadd, 1) := by decide +kernel
theorem dL_law_283 : decode cL_law 283 = .ok (.iaload, 1) := by decide +kernel
theorem dL_law_284 : decode cL_law 284 = .ok (.ifCond .eq 7, 3) := by decide +kernel
theorem dL_law_287 : decode cL_law 287 = .ok (.iconst 1, 1) := by decide +kernel
theorem dL_law_288 : decode cL_law 288 = .ok (.goto 4, 3) := by decide +kernel
theorem dL_law_291 : decode cL_law 291 = .ok (.iconst 0, 1) := by decide +kernel
theorem dL_law_292 : decode cL_law 292 = .ok (.invokevirtual 23, 3) := by decide +kernel
theorem dL_law_295 : decode cL_law 295 = .ok (.aload_n 2, 1) := by decide +kernel
theorem dL_law_296 : decode cL_law 296 = .ok (.aload_n 0, 1) := by decide +kernel
theorem dL_law_297 : decode cL_law 297 = .ok (.iload_n 3, 1) := by decide +kernel
theorem dL_law_298 : decode cL_law 298 = .ok (.iconst 1, 1) := by decide +kernel
theorem dL_law_299 : decode cL_law 299 = .ok (.iadd, 1) := by decide +kernel
theorem dL_law_300 : decode cL_law 300 = .ok (.iaload, 1) := by decide +kernel
theorem dL_law_301 : decode cL_law 301 = .ok (.aload_n 0, 1) := by decide +kernel
theorem dL_law_302 : decode cL_law 302 = .ok (.iload_n 3, 1) := by decide +kernel
theorem dL_law_303 : decode cL_law 303 = .ok (.iconst 2, 1) := by decide +kernel
theorem dL_law_304 : decode cL_law 304 = .ok (.iadd, 1) := by decide +kernel
theorem dL_law_305 : decode cL_law 305 = .ok (.iaload, 1) := by decide +kernel
theorem dL_law_306 : decode cL_law 306 = .ok (.aload_n 0, 1) := by decide +kernel
theorem dL_law_307 : decode cL_law 307 = .ok (.iload_n 3, 1) := by decide +kernel
theorem dL_law_308 : decode cL_law 308 = .ok (.iconst 3, 1) := by decide +kernel
theorem dL_law_309 : decode cL_law 309 = .ok (.iadd, 1) := by decide +kernel
theorem dL_law_310 : decode cL_law 310 = .ok (.iaload, 1) := by decide +kernel
theorem dL_law_311 : decode cL_law 311 = .ok (.ifCond .eq 7, 3) := by decide +kernel
theorem dL_law_314 : decode cL_law 314 = .ok (.iconst 1, 1) := by decide +kernel
theorem dL_law_315 : decode cL_law 315 = .ok (.goto 4, 3) := by decide +kernel
theorem dL_law_318 : decode cL_law 318 = .ok (.iconst 0, 1) := by decide +kernel
theorem dL_law_319 : decode cL_law 319 = .ok (.invokevirtual 27, 3) := by decide +kernel
theorem dL_law_322 : decode cL_law 322 = .ok (.if_icmp .eq 734, 3) := by decide +kernel
theorem dL_law_325 : decode cL_law 325 = .ok (.iconst 0, 1) := by decide +kernel
theorem dL_law_326 : decode cL_law 326 = .ok (.ireturn, 1) := by decide +kernel
theorem dL_law_327 : decode cL_law 327 = .ok (.aload_n 1, 1) := by decide +kernel
theorem dL_law_328 : decode cL_law 328 = .ok (.aload_n 0, 1) := by decide +kernel
theorem dL_law_329 : decode cL_law 329 = .ok (.iload_n 3, 1) := by decide +kernel
theorem dL_law_330 : decode cL_law 330 = .ok (.iconst 1, 1) := by decide +kernel
theorem dL_law_331 : decode cL_law 331 = .ok (.iadd, 1) := by decide +kernel
theorem dL_law_332 : decode cL_law 332 = .ok (.iaload, 1) := by decide +kernel
theorem dL_law_333 : decode cL_law 333 = .ok (.invokevirtual 28, 3) := by decide +kernel
theorem dL_law_336 : decode cL_law 336 = .ok (.aload_n 2, 1) := by decide +kernel
theorem dL_law_337 : decode cL_law 337 = .ok (.aload_n 0, 1) := by decide +kernel
theorem dL_law_338 : decode cL_law 338 = .ok (.iload_n 3, 1) := by decide +kernel
theorem dL_law_339 : decode cL_law 339 = .ok (.iconst 1, 1) := by decide +kernel
theorem dL_law_340 : decode cL_law 340 = .ok (.iadd, 1) := by decide +kernel
theorem dL_law_341 : decode cL_law 341 = .ok (.iaload, 1) := by decide +kernel
theorem dL_law_342 : decode cL_law 342 = .ok (.invokevirtual 32, 3) := by decide +kernel
theorem dL_law_345 : decode cL_law 345 = .ok (.if_icmp .eq 711, 3) := by decide +kernel
theorem dL_law_348 : decode cL_law 348 = .ok (.iconst 0, 1) := by decide +kernel
theorem dL_law_349 : decode cL_law 349 = .ok (.ireturn, 1) := by decide +kernel
theorem dL_law_350 : decode cL_law 350 = .ok (.aload_n 1, 1) := by decide +kernel
theorem dL_law_351 : decode cL_law 351 = .ok (.aload_n 0, 1) := by decide +kernel
theorem dL_law_352 : decode cL_law 352 = .ok (.iload_n 3, 1) := by decide +kernel
theorem dL_law_353 : decode cL_law 353 = .ok (.iconst 1, 1) := by decide +kernel
theorem dL_law_354 : decode cL_law 354 = .ok (.iadd, 1) := by decide +kernel
theorem dL_law_355 : decode cL_law 355 = .ok (.iaload, 1) := by decide +kernel
theorem dL_law_356 : decode cL_law 356 = .ok (.invokevirtual 33, 3) := by decide +kernel
theorem dL_law_359 : decode cL_law 359 = .ok (.aload_n 2, 1) := by decide +kernel
theorem dL_law_360 : decode cL_law 360 = .ok (.aload_n 0, 1) := by decide +kernel
theorem dL_law_361 : decode cL_law 361 = .ok (.iload_n 3, 1) := by decide +kernel
theorem dL_law_362 : decode cL_law 362 = .ok (.iconst 1, 1) := by decide +kernel
theorem dL_law_363 : decode cL_law 363 = .ok (.iadd, 1) := by decide +kernel
theorem dL_law_364 : decode cL_law 364 = .ok (.iaload, 1) := by decide +kernel
theorem dL_law_365 : decode cL_law 365 = .ok (.invokevirtual 36, 3) := by decide +kernel
theorem dL_law_368 : decode cL_law 368 = .ok (.if_icmp .eq 688, 3) := by decide +kernel
theorem dL_law_371 : decode cL_law 371 = .ok (.iconst 0, 1) := by decide +kernel
theorem dL_law_372 : decode cL_law 372 = .ok (.ireturn, 1) := by decide +kernel
theorem dL_law_373 : decode cL_law 373 = .ok (.aload_n 1, 1) := by decide +kernel
theorem dL_law_374 : decode cL_law 374 = .ok (.invokevirtual 37, 3) := by decide +kernel
theorem dL_law_377 : decode cL_law 377 = .ok (.aload_n 2, 1) := by decide +kernel
theorem dL_law_378 : decode cL_law 378 = .ok (.invokevirtual 41, 3) := by decide +kernel
theorem dL_law_381 : decode cL_law 381 = .ok (.if_icmp .eq 675, 3) := by decide +kernel
theorem dL_law_384 : decode cL_law 384 = .ok (.iconst 0, 1) := by decide +kernel
theorem dL_law_385 : decode cL_law 385 = .ok (.ireturn, 1) := by decide +kernel
theorem dL_law_386 : decode cL_law 386 = .ok (.aload_n 1, 1) := by decide +kernel
theorem dL_law_387 : decode cL_law 387 = .ok (.invokevirtual 42, 3) := by decide +kernel
theorem dL_law_390 : decode cL_law 390 = .ok (.aload_n 2, 1) := by decide +kernel
theorem dL_law_391 : decode cL_law 391 = .ok (.invokevirtual 45, 3) := by decide +kernel
theorem dL_law_394 : decode cL_law 394 = .ok (.if_icmp .eq 662, 3) := by decide +kernel
theorem dL_law_397 : decode cL_law 397 = .ok (.iconst 0, 1) := by decide +kernel
theorem dL_law_398 : decode cL_law 398 = .ok (.ireturn, 1) := by decide +kernel
theorem dL_law_399 : decode cL_law 399 = .ok (.aload_n 1, 1) := by decide +kernel
theorem dL_law_400 : decode cL_law 400 = .ok (.aload_n 0, 1) := by decide +kernel
theorem dL_law_401 : decode cL_law 401 = .ok (.iload_n 3, 1) := by decide +kernel
theorem dL_law_402 : decode cL_law 402 = .ok (.iconst 1, 1) := by decide +kernel
theorem dL_law_403 : decode cL_law 403 = .ok (.iadd, 1) := by decide +kernel
theorem dL_law_404 : decode cL_law 404 = .ok (.iaload, 1) := by decide +kernel
theorem dL_law_405 : decode cL_law 405 = .ok (.invokevirtual 46, 3) := by decide +kernel
theorem dL_law_408 : decode cL_law 408 = .ok (.aload_n 2, 1) := by decide +kernel
theorem dL_law_409 : decode cL_law 409 = .ok (.aload_n 0, 1) := by decide +kernel
theorem dL_law_410 : decode cL_law 410 = .ok (.iload_n 3, 1) := by decide +kernel
theorem dL_law_411 : decode cL_law 411 = .ok (.iconst 1, 1) := by decide +kernel
theorem dL_law_412 : decode cL_law 412 = .ok (.iadd, 1) := by decide +kernel
theorem dL_law_413 : decode cL_law 413 = .ok (.iaload, 1) := by decide +kernel
theorem dL_law_414 : decode cL_law 414 = .ok (.invokevirtual 49, 3) := by decide +kernel
theorem dL_law_417 : decode cL_law 417 = .ok (.if_icmp .eq 639, 3) := by decide +kernel
theorem dL_law_420 : decode cL_law 420 = .ok (.iconst 0, 1) := by decide +kernel
theorem dL_law_421 : decode cL_law 421 = .ok (.ireturn, 1) := by decide +kernel
theorem dL_law_422 : decode cL_law 422 = .ok (.aload_n 1, 1) := by decide +kernel
theorem dL_law_423 : decode cL_law 423 = .ok (.invokevirtual 50, 3) := by decide +kernel
theorem dL_law_426 : decode cL_law 426 = .ok (.aload_n 2, 1) := by decide +kernel
theorem dL_law_427 : decode cL_law 427 = .ok (.invokevirtual 53, 3) := by decide +kernel
theorem dL_law_430 : decode cL_law 430 = .ok (.if_icmp .eq 626, 3) := by decide +kernel
theorem dL_law_433 : decode cL_law 433 = .ok (.iconst 0, 1) := by decide +kernel
theorem dL_law_434 : decode cL_law 434 = .ok (.ireturn, 1) := by decide +kernel
theorem dL_law_435 : decode cL_law 435 = .ok (.aload_n 1, 1) := by decide +kernel
theorem dL_law_436 : decode cL_law 436 = .ok (.aload_n 0, 1) := by decide +kernel
theorem dL_law_437 : decode cL_law 437 = .ok (.iload_n 3, 1) := by decide +kernel
theorem dL_law_438 : decode cL_law 438 = .ok (.iconst 1, 1) := by decide +kernel
theorem dL_law_439 : decode cL_law 439 = .ok (.iadd, 1) := by decide +kernel
theorem dL_law_440 : decode cL_law 440 = .ok (.iaload, 1) := by decide +kernel
theorem dL_law_441 : decode cL_law 441 = .ok (.aload_n 0, 1) := by decide +kernel
theorem dL_law_442 : decode cL_law 442 = .ok (.iload_n 3, 1) := by decide +kernel
theorem dL_law_443 : decode cL_law 443 = .ok (.iconst 2, 1) := by decide +kernel
theorem dL_law_444 : decode cL_law 444 = .ok (.iadd, 1) := by decide +kernel
theorem dL_law_445 : decode cL_law 445 = .ok (.iaload, 1) := by decide +kernel
theorem dL_law_446 : decode cL_law 446 = .ok (.invokevirtual 54, 3) := by decide +kernel
theorem dL_law_449 : decode cL_law 449 = .ok (.aload_n 2, 1) := by decide +kernel
theorem dL_law_450 : decode cL_law 450 = .ok (.aload_n 0, 1) := by decide +kernel
theorem dL_law_451 : decode cL_law 451 = .ok (.iload_n 3, 1) := by decide +kernel
theorem dL_law_452 : decode cL_law 452 = .ok (.iconst 1, 1) := by decide +kernel
theorem dL_law_453 : decode cL_law 453 = .ok (.iadd, 1) := by decide +kernel
theorem dL_law_454 : decode cL_law 454 = .ok (.iaload, 1) := by decide +kernel
theorem dL_law_455 : decode cL_law 455 = .ok (.aload_n 0, 1) := by decide +kernel
theorem dL_law_456 : decode cL_law 456 = .ok (.iload_n 3, 1) := by decide +kernel
theorem dL_law_457 : decode cL_law 457 = .ok (.iconst 2, 1) := by decide +kernel
theorem dL_law_458 : decode cL_law 458 = .ok (.iadd, 1) := by decide +kernel
theorem dL_law_459 : decode cL_law 459 = .ok (.iaload, 1) := by decide +kernel
theorem dL_law_460 : decode cL_law 460 = .ok (.invokevirtual 58, 3) := by decide +kernel
theorem dL_law_463 : decode cL_law 463 = .ok (.if_icmp .eq 593, 3) := by decide +kernel
theorem dL_law_466 : decode cL_law 466 = .ok (.iconst 0, 1) := by decide +kernel
theorem dL_law_467 : decode cL_law 467 = .ok (.ireturn, 1) := by decide +kernel
theorem dL_law_468 : decode cL_law 468 = .ok (.aload_n 1, 1) := by decide +kernel
theorem dL_law_469 : decode cL_law 469 = .ok (.aload_n 0, 1) := by decide +kernel
theorem dL_law_470 : decode cL_law 470 = .ok (.iload_n 3, 1) := by decide +kernel
theorem dL_law_471 : decode cL_law 471 = .ok (.iconst 1, 1) := by decide +kernel
theorem dL_law_472 : decode cL_law 472 = .ok (.iadd, 1) := by decide +kernel
theorem dL_law_473 : decode cL_law 473 = .ok (.iaload, 1) := by decide +kernel
theorem dL_law_474 : decode cL_law 474 = .ok (.invokevirtual 59, 3) := by decide +kernel
theorem dL_law_477 : decode cL_law 477 = .ok (.aload_n 2, 1) := by decide +kernel
theorem dL_law_478 : decode cL_law 478 = .ok (.aload_n 0, 1) := by decide +kernel
theorem dL_law_479 : decode cL_law 479 = .ok (.iload_n 3, 1) := by decide +kernel
theorem dL_law_480 : decode cL_law 480 = .ok (.iconst 1, 1) := by decide +kernel
theorem dL_law_481 : decode cL_law 481 = .ok (.iadd, 1) := by decide +kernel
theorem dL_law_482 : decode cL_law 482 = .ok (.iaload, 1) := by decide +kernel
theorem dL_law_483 : decode cL_law 483 = .ok (.invokevirtual 62, 3) := by decide +kernel
theorem dL_law_486 : decode cL_law 486 = .ok (.if_icmp .eq 570, 3) := by decide +kernel
theorem dL_law_489 : decode cL_law 489 = .ok (.iconst 0, 1) := by decide +kernel
theorem dL_law_490 : decode cL_law 490 = .ok (.ireturn, 1) := by decide +kernel
theorem dL_law_491 : decode cL_law 491 = .ok (.aload_n 1, 1) := by decide +kernel
theorem dL_law_492 : decode cL_law 492 = .ok (.aload_n 0, 1) := by decide +kernel
theorem dL_law_493 : decode cL_law 493 = .ok (.iload_n 3, 1) := by decide +kernel
theorem dL_law_494 : decode cL_law 494 = .ok (.iconst 1, 1) := by decide +kernel
theorem dL_law_495 : decode cL_law 495 = .ok (.iadd, 1) := by decide +kernel
theorem dL_law_496 : decode cL_law 496 = .ok (.iaload, 1) := by decide +kernel
theorem dL_law_497 : decode cL_law 497 = .ok (.invokevirtual 63, 3) := by decide +kernel
theorem dL_law_500 : decode cL_law 500 = .ok (.aload_n 2, 1) := by decide +kernel
theorem dL_law_501 : decode cL_law 501 = .ok (.aload_n 0, 1) := by decide +kernel
theorem dL_law_502 : decode cL_law 502 = .ok (.iload_n 3, 1) := by decide +kernel
theorem dL_law_503 : decode cL_law 503 = .ok (.iconst 1, 1) := by decide +kernel
theorem dL_law_504 : decode cL_law 504 = .ok (.iadd, 1) := by decide +kernel
theorem dL_law_505 : decode cL_law 505 = .ok (.iaload, 1) := by decide +kernel
theorem dL_law_506 : decode cL_law 506 = .ok (.invokevirtual 66, 3) := by decide +kernel
theorem dL_law_509 : decode cL_law 509 = .ok (.if_icmp .eq 547, 3) := by decide +kernel
theorem dL_law_512 : decode cL_law 512 = .ok (.iconst 0, 1) := by decide +kernel
theorem dL_law_513 : decode cL_law 513 = .ok (.ireturn, 1) := by decide +kernel
theorem dL_law_514 : decode cL_law 514 = .ok (.aload_n 1, 1) := by decide +kernel
theorem dL_law_515 : decode cL_law 515 = .ok (.aload_n 0, 1) := by decide +kernel
theorem dL_law_516 : decode cL_law 516 = .ok (.iload_n 3, 1) := by decide +kernel
theorem dL_law_517 : decode cL_law 517 = .ok (.iconst 1, 1) := by decide +kernel
theorem dL_law_518 : decode cL_law 518 = .ok (.iadd, 1) := by decide +kernel
theorem dL_law_519 : decode cL_law 519 = .ok (.iaload, 1) := by decide +kernel
theorem dL_law_520 : decode cL_law 520 = .ok (.aload_n 0, 1) := by decide +kernel
theorem dL_law_521 : decode cL_law 521 = .ok (.iload_n 3, 1) := by decide +kernel
theorem dL_law_522 : decode cL_law 522 = .ok (.iconst 2, 1) := by decide +kernel
theorem dL_law_523 : decode cL_law 523 = .ok (.iadd, 1) := by decide +kernel
theorem dL_law_524 : decode cL_law 524 = .ok (.iaload, 1) := by decide +kernel
theorem dL_law_525 : decode cL_law 525 = .ok (.aload_n 0, 1) := by decide +kernel
theorem dL_law_526 : decode cL_law 526 = .ok (.iload_n 3, 1) := by decide +kernel
theorem dL_law_527 : decode cL_law 527 = .ok (.iconst 3, 1) := by decide +kernel
theorem dL_law_528 : decode cL_law 528 = .ok (.iadd, 1) := by decide +kernel
theorem dL_law_529 : decode cL_law 529 = .ok (.iaload, 1) := by decide +kernel
theorem dL_law_530 : decode cL_law 530 = .ok (.invokevirtual 67, 3) := by decide +kernel
theorem dL_law_533 : decode cL_law 533 = .ok (.aload_n 2, 1) := by decide +kernel
theorem dL_law_534 : decode cL_law 534 = .ok (.aload_n 0, 1) := by decide +kernel
theorem dL_law_535 : decode cL_law 535 = .ok (.iload_n 3, 1) := by decide +kernel
theorem dL_law_536 : decode cL_law 536 = .ok (.iconst 1, 1) := by decide +kernel
theorem dL_law_537 : decode cL_law 537 = .ok (.iadd, 1) := by decide +kernel
theorem dL_law_538 : decode cL_law 538 = .ok (.iaload, 1) := by decide +kernel
theorem dL_law_539 : decode cL_law 539 = .ok (.aload_n 0, 1) := by decide +kernel
theorem dL_law_540 : decode cL_law 540 = .ok (.iload_n 3, 1) := by decide +kernel
theorem dL_law_541 : decode cL_law 541 = .ok (.iconst 2, 1) := by decide +kernel
theorem dL_law_542 : decode cL_law 542 = .ok (.iadd, 1) := by decide +kernel
theorem dL_law_543 : decode cL_law 543 = .ok (.iaload, 1) := by decide +kernel
theorem dL_law_544 : decode cL_law 544 = .ok (.aload_n 0, 1) := by decide +kernel
theorem dL_law_545 : decode cL_law 545 = .ok (.iload_n 3, 1) := by decide +kernel
theorem dL_law_546 : decode cL_law 546 = .ok (.iconst 3, 1) := by decide +kernel
theorem dL_law_547 : decode cL_law 547 = .ok (.iadd, 1) := by decide +kernel
theorem dL_law_548 : decode cL_law 548 = .ok (.iaload, 1) := by decide +kernel
theorem dL_law_549 : decode cL_law 549 = .ok (.invokevirtual 70, 3) := by decide +kernel
theorem dL_law_552 : decode cL_law 552 = .ok (.if_icmp .eq 504, 3) := by decide +kernel
theorem dL_law_555 : decode cL_law 555 = .ok (.iconst 0, 1) := by decide +kernel
theorem dL_law_556 : decode cL_law 556 = .ok (.ireturn, 1) := by decide +kernel
theorem dL_law_557 : decode cL_law 557 = .ok (.aload_n 1, 1) := by decide +kernel
theorem dL_law_558 : decode cL_law 558 = .ok (.aload_n 0, 1) := by decide +kernel
theorem dL_law_559 : decode cL_law 559 = .ok (.iload_n 3, 1) := by decide +kernel
theorem dL_law_560 : decode cL_law 560 = .ok (.iconst 1, 1) := by decide +kernel
theorem dL_law_561 : decode cL_law 561 = .ok (.iadd, 1) := by decide +kernel
theorem dL_law_562 : decode cL_law 562 = .ok (.iaload, 1) := by decide +kernel
theorem dL_law_563 : decode cL_law 563 = .ok (.aload_n 0, 1) := by decide +kernel
theorem dL_law_564 : decode cL_law 564 = .ok (.iload_n 3, 1) := by decide +kernel
theorem dL_law_565 : decode cL_law 565 = .ok (.iconst 2, 1) := by decide +kernel
theorem dL_law_566 : decode cL_law 566 = .ok (.iadd, 1) := by decide +kernel
theorem dL_law_567 : decode cL_law 567 = .ok (.iaload, 1) := by decide +kernel
theorem dL_law_568 : decode cL_law 568 = .ok (.aload_n 0, 1) := by decide +kernel
theorem dL_law_569 : decode cL_law 569 = .ok (.iload_n 3, 1) := by decide +kernel
theorem dL_law_570 : decode cL_law 570 = .ok (.iconst 3, 1) := by decide +kernel
theorem dL_law_571 : decode cL_law 571 = .ok (.iadd, 1) := by decide +kernel
theorem dL_law_572 : decode cL_law 572 = .ok (.iaload, 1) := by decide +kernel
theorem dL_law_573 : decode cL_law 573 = .ok (.invokevirtual 71, 3) := by decide +kernel
theorem dL_law_576 : decode cL_law 576 = .ok (.aload_n 2, 1) := by decide +kernel
theorem dL_law_577 : decode cL_law 577 = .ok (.aload_n 0, 1) := by decide +kernel
theorem dL_law_578 : decode cL_law 578 = .ok (.iload_n 3, 1) := by decide +kernel
theorem dL_law_579 : decode cL_law 579 = .ok (.iconst 1, 1) := by decide +kernel
theorem dL_law_580 : decode cL_law 580 = .ok (.iadd, 1) := by decide +kernel
theorem dL_law_581 : decode cL_law 581 = .ok (.iaload, 1) := by decide +kernel
theorem dL_law_582 : decode cL_law 582 = .ok (.aload_n 0, 1) := by decide +kernel
theorem dL_law_583 : decode cL_law 583 = .ok (.iload_n 3, 1) := by decide +kernel
theorem dL_law_584 : decode cL_law 584 = .ok (.iconst 2, 1) := by decide +kernel
theorem dL_law_585 : decode cL_law 585 = .ok (.iadd, 1) := by decide +kernel
theorem dL_law_586 : decode cL_law 586 = .ok (.iaload, 1) := by decide +kernel
theorem dL_law_587 : decode cL_law 587 = .ok (.aload_n 0, 1) := by decide +kernel
theorem dL_law_588 : decode cL_law 588 = .ok (.iload_n 3, 1) := by decide +kernel
theorem dL_law_589 : decode cL_law 589 = .ok (.iconst 3, 1) := by decide +kernel
theorem dL_law_590 : decode cL_law 590 = .ok (.iadd, 1) := by decide +kernel
theorem dL_law_591 : decode cL_law 591 = .ok (.iaload, 1) := by decide +kernel
theorem dL_law_592 : decode cL_law 592 = .ok (.invokevirtual 74, 3) := by decide +kernel
theorem dL_law_595 : decode cL_law 595 = .ok (.if_icmp .eq 461, 3) := by decide +kernel
theorem dL_law_598 : decode cL_law 598 = .ok (.iconst 0, 1) := by decide +kernel
theorem dL_law_599 : decode cL_law 599 = .ok (.ireturn, 1) := by decide +kernel
theorem dL_law_600 : decode cL_law 600 = .ok (.aload_n 1, 1) := by decide +kernel
theorem dL_law_601 : decode cL_law 601 = .ok (.aload_n 0, 1) := by decide +kernel
theorem dL_law_602 : decode cL_law 602 = .ok (.iload_n 3, 1) := by decide +kernel
theorem dL_law_603 : decode cL_law 603 = .ok (.iconst 1, 1) := by decide +kernel
theorem dL_law_604 : decode cL_law 604 = .ok (.iadd, 1) := by decide +kernel
theorem dL_law_605 : decode cL_law 605 = .ok (.iaload, 1) := by decide +kernel
theorem dL_law_606 : decode cL_law 606 = .ok (.aload_n 0, 1) := by decide +kernel
theorem dL_law_607 : decode cL_law 607 = .ok (.iload_n 3, 1) := by decide +kernel
theorem dL_law_608 : decode cL_law 608 = .ok (.iconst 2, 1) := by decide +kernel
theorem dL_law_609 : decode cL_law 609 = .ok (.iadd, 1) := by decide +kernel
theorem dL_law_610 : decode cL_law 610 = .ok (.iaload, 1) := by decide +kernel
theorem dL_law_611 : decode cL_law 611 = .ok (.aload_n 0, 1) := by decide +kernel
theorem dL_law_612 : decode cL_law 612 = .ok (.iload_n 3, 1) := by decide +kernel
theorem dL_law_613 : decode cL_law 613 = .ok (.iconst 3, 1) := by decide +kernel
theorem dL_law_614 : decode cL_law 614 = .ok (.iadd, 1) := by decide +kernel
theorem dL_law_615 : decode cL_law 615 = .ok (.iaload, 1) := by decide +kernel
theorem dL_law_616 : decode cL_law 616 = .ok (.invokevirtual 75, 3) := by decide +kernel
theorem dL_law_619 : decode cL_law 619 = .ok (.aload_n 2, 1) := by decide +kernel
theorem dL_law_620 : decode cL_law 620 = .ok (.aload_n 0, 1) := by decide +kernel
theorem dL_law_621 : decode cL_law 621 = .ok (.iload_n 3, 1) := by decide +kernel
theorem dL_law_622 : decode cL_law 622 = .ok (.iconst 1, 1) := by decide +kernel
theorem dL_law_623 : decode cL_law 623 = .ok (.iadd, 1) := by decide +kernel
theorem dL_law_624 : decode cL_law 624 = .ok (.iaload, 1) := by decide +kernel
theorem dL_law_625 : decode cL_law 625 = .ok (.aload_n 0, 1) := by decide +kernel
theorem dL_law_626 : decode cL_law 626 = .ok (.iload_n 3, 1) := by decide +kernel
theorem dL_law_627 : decode cL_law 627 = .ok (.iconst 2, 1) := by decide +kernel
theorem dL_law_628 : decode cL_law 628 = .ok (.iadd, 1) := by decide +kernel
theorem dL_law_629 : decode cL_law 629 = .ok (.iaload, 1) := by decide +kernel
theorem dL_law_630 : decode cL_law 630 = .ok (.aload_n 0, 1) := by decide +kernel
theorem dL_law_631 : decode cL_law 631 = .ok (.iload_n 3, 1) := by decide +kernel
theorem dL_law_632 : decode cL_law 632 = .ok (.iconst 3, 1) := by decide +kernel
theorem dL_law_633 : decode cL_law 633 = .ok (.iadd, 1) := by decide +kernel
theorem dL_law_634 : decode cL_law 634 = .ok (.iaload, 1) := by decide +kernel
theorem dL_law_635 : decode cL_law 635 = .ok (.invokevirtual 78, 3) := by decide +kernel
theorem dL_law_638 : decode cL_law 638 = .ok (.if_icmp .eq 418, 3) := by decide +kernel
theorem dL_law_641 : decode cL_law 641 = .ok (.iconst 0, 1) := by decide +kernel
theorem dL_law_642 : decode cL_law 642 = .ok (.ireturn, 1) := by decide +kernel
theorem dL_law_643 : decode cL_law 643 = .ok (.aload_n 1, 1) := by decide +kernel
theorem dL_law_644 : decode cL_law 644 = .ok (.aload_n 0, 1) := by decide +kernel
theorem dL_law_645 : decode cL_law 645 = .ok (.iload_n 3, 1) := by decide +kernel
theorem dL_law_646 : decode cL_law 646 = .ok (.iconst 1, 1) := by decide +kernel
theorem dL_law_647 : decode cL_law 647 = .ok (.iadd, 1) := by decide +kernel
theorem dL_law_648 : decode cL_law 648 = .ok (.iaload, 1) := by decide +kernel
theorem dL_law_649 : decode cL_law 649 = .ok (.aload_n 0, 1) := by decide +kernel
theorem dL_law_650 : decode cL_law 650 = .ok (.iload_n 3, 1) := by decide +kernel
theorem dL_law_651 : decode cL_law 651 = .ok (.iconst 2, 1) := by decide +kernel
theorem dL_law_652 : decode cL_law 652 = .ok (.iadd, 1) := by decide +kernel
theorem dL_law_653 : decode cL_law 653 = .ok (.iaload, 1) := by decide +kernel
theorem dL_law_654 : decode cL_law 654 = .ok (.invokevirtual 79, 3) := by decide +kernel
theorem dL_law_657 : decode cL_law 657 = .ok (.aload_n 2, 1) := by decide +kernel
theorem dL_law_658 : decode cL_law 658 = .ok (.aload_n 0, 1) := by decide +kernel
theorem dL_law_659 : decode cL_law 659 = .ok (.iload_n 3, 1) := by decide +kernel
theorem dL_law_660 : decode cL_law 660 = .ok (.iconst 1, 1) := by decide +kernel
theorem dL_law_661 : decode cL_law 661 = .ok (.iadd, 1) := by decide +kernel
theorem dL_law_662 : decode cL_law 662 = .ok (.iaload, 1) := by decide +kernel
theorem dL_law_663 : decode cL_law 663 = .ok (.aload_n 0, 1) := by decide +kernel
theorem dL_law_664 : decode cL_law 664 = .ok (.iload_n 3, 1) := by decide +kernel
theorem dL_law_665 : decode cL_law 665 = .ok (.iconst 2, 1) := by decide +kernel
theorem dL_law_666 : decode cL_law 666 = .ok (.iadd, 1) := by decide +kernel
theorem dL_law_667 : decode cL_law 667 = .ok (.iaload, 1) := by decide +kernel
theorem dL_law_668 : decode cL_law 668 = .ok (.invokevirtual 82, 3) := by decide +kernel
theorem dL_law_671 : decode cL_law 671 = .ok (.if_icmp .eq 385, 3) := by decide +kernel
theorem dL_law_674 : decode cL_law 674 = .ok (.iconst 0, 1) := by decide +kernel
theorem dL_law_675 : decode cL_law 675 = .ok (.ireturn, 1) := by decide +kernel
theorem dL_law_676 : decode cL_law 676 = .ok (.aload_n 1, 1) := by decide +kernel
theorem dL_law_677 : decode cL_law 677 = .ok (.aload_n 0, 1) := by decide +kernel
theorem dL_law_678 : decode cL_law 678 = .ok (.iload_n 3, 1) := by decide +kernel
theorem dL_law_679 : decode cL_law 679 = .ok (.iconst 1, 1) := by decide +kernel
theorem dL_law_680 : decode cL_law 680 = .ok (.iadd, 1) := by decide +kernel
theorem dL_law_681 : decode cL_law 681 = .ok (.iaload, 1) := by decide +kernel
theorem dL_law_682 : decode cL_law 682 = .ok (.aload_n 0, 1) := by decide +kernel
theorem dL_law_683 : decode cL_law 683 = .ok (.iload_n 3, 1) := by decide +kernel
theorem dL_law_684 : decode cL_law 684 = .ok (.iconst 2, 1) := by decide +kernel
theorem dL_law_685 : decode cL_law 685 = .ok (.iadd, 1) := by decide +kernel
theorem dL_law_686 : decode cL_law 686 = .ok (.iaload, 1) := by decide +kernel
theorem dL_law_687 : decode cL_law 687 = .ok (.aload_n 0, 1) := by decide +kernel
theorem dL_law_688 : decode cL_law 688 = .ok (.iload_n 3, 1) := by decide +kernel
theorem dL_law_689 : decode cL_law 689 = .ok (.iconst 3, 1) := by decide +kernel
theorem dL_law_690 : decode cL_law 690 = .ok (.iadd, 1) := by decide +kernel
theorem dL_law_691 : decode cL_law 691 = .ok (.iaload, 1) := by decide +kernel
theorem dL_law_692 : decode cL_law 692 = .ok (.invokevirtual 83, 3) := by decide +kernel
theorem dL_law_695 : decode cL_law 695 = .ok (.aload_n 2, 1) := by decide +kernel
theorem dL_law_696 : decode cL_law 696 = .ok (.aload_n 0, 1) := by decide +kernel
theorem dL_law_697 : decode cL_law 697 = .ok (.iload_n 3, 1) := by decide +kernel
theorem dL_law_698 : decode cL_law 698 = .ok (.iconst 1, 1) := by decide +kernel
theorem dL_law_699 : decode cL_law 699 = .ok (.iadd, 1) := by decide +kernel
theorem dL_law_700 : decode cL_law 700 = .ok (.iaload, 1) := by decide +kernel
theorem dL_law_701 : decode cL_law 701 = .ok (.aload_n 0, 1) := by decide +kernel
theorem dL_law_702 : decode cL_law 702 = .ok (.iload_n 3, 1) := by decide +kernel
theorem dL_law_703 : decode cL_law 703 = .ok (.iconst 2, 1) := by decide +kernel
theorem dL_law_704 : decode cL_law 704 = .ok (.iadd, 1) := by decide +kernel
theorem dL_law_705 : decode cL_law 705 = .ok (.iaload, 1) := by decide +kernel
theorem dL_law_706 : decode cL_law 706 = .ok (.aload_n 0, 1) := by decide +kernel
theorem dL_law_707 : decode cL_law 707 = .ok (.iload_n 3, 1) := by decide +kernel
theorem dL_law_708 : decode cL_law 708 = .ok (.iconst 3, 1) := by decide +kernel
theorem dL_law_709 : decode cL_law 709 = .ok (.iadd, 1) := by decide +kernel
theorem dL_law_710 : decode cL_law 710 = .ok (.iaload, 1) := by decide +kernel
theorem dL_law_711 : decode cL_law 711 = .ok (.invokevirtual 86, 3) := by decide +kernel
theorem dL_law_714 : decode cL_law 714 = .ok (.if_icmp .eq 342, 3) := by decide +kernel
theorem dL_law_717 : decode cL_law 717 = .ok (.iconst 0, 1) := by decide +kernel
theorem dL_law_718 : decode cL_law 718 = .ok (.ireturn, 1) := by decide +kernel
theorem dL_law_719 : decode cL_law 719 = .ok (.aload_n 1, 1) := by decide +kernel
theorem dL_law_720 : decode cL_law 720 = .ok (.aload_n 0, 1) := by decide +kernel
theorem dL_law_721 : decode cL_law 721 = .ok (.iload_n 3, 1) := by decide +kernel
theorem dL_law_722 : decode cL_law 722 = .ok (.iconst 1, 1) := by decide +kernel
theorem dL_law_723 : decode cL_law 723 = .ok (.iadd, 1) := by decide +kernel
theorem dL_law_724 : decode cL_law 724 = .ok (.iaload, 1) := by decide +kernel
theorem dL_law_725 : decode cL_law 725 = .ok (.aload_n 0, 1) := by decide +kernel
theorem dL_law_726 : decode cL_law 726 = .ok (.iload_n 3, 1) := by decide +kernel
theorem dL_law_727 : decode cL_law 727 = .ok (.iconst 2, 1) := by decide +kernel
theorem dL_law_728 : decode cL_law 728 = .ok (.iadd, 1) := by decide +kernel
theorem dL_law_729 : decode cL_law 729 = .ok (.iaload, 1) := by decide +kernel
theorem dL_law_730 : decode cL_law 730 = .ok (.ifCond .eq 7, 3) := by decide +kernel
theorem dL_law_733 : decode cL_law 733 = .ok (.iconst 1, 1) := by decide +kernel
theorem dL_law_734 : decode cL_law 734 = .ok (.goto 4, 3) := by decide +kernel
theorem dL_law_737 : decode cL_law 737 = .ok (.iconst 0, 1) := by decide +kernel
theorem dL_law_738 : decode cL_law 738 = .ok (.aload_n 0, 1) := by decide +kernel
theorem dL_law_739 : decode cL_law 739 = .ok (.iload_n 3, 1) := by decide +kernel
theorem dL_law_740 : decode cL_law 740 = .ok (.iconst 3, 1) := by decide +kernel
theorem dL_law_741 : decode cL_law 741 = .ok (.iadd, 1) := by decide +kernel
theorem dL_law_742 : decode cL_law 742 = .ok (.iaload, 1) := by decide +kernel
theorem dL_law_743 : decode cL_law 743 = .ok (.invokevirtual 87, 3) := by decide +kernel
theorem dL_law_746 : decode cL_law 746 = .ok (.aload_n 2, 1) := by decide +kernel
theorem dL_law_747 : decode cL_law 747 = .ok (.aload_n 0, 1) := by decide +kernel
theorem dL_law_748 : decode cL_law 748 = .ok (.iload_n 3, 1) := by decide +kernel
theorem dL_law_749 : decode cL_law 749 = .ok (.iconst 1, 1) := by decide +kernel
theorem dL_law_750 : decode cL_law 750 = .ok (.iadd, 1) := by decide +kernel
theorem dL_law_751 : decode cL_law 751 = .ok (.iaload, 1) := by decide +kernel
theorem dL_law_752 : decode cL_law 752 = .ok (.aload_n 0, 1) := by decide +kernel
theorem dL_law_753 : decode cL_law 753 = .ok (.iload_n 3, 1) := by decide +kernel
theorem dL_law_754 : decode cL_law 754 = .ok (.iconst 2, 1) := by decide +kernel
theorem dL_law_755 : decode cL_law 755 = .ok (.iadd, 1) := by decide +kernel
theorem dL_law_756 : decode cL_law 756 = .ok (.iaload, 1) := by decide +kernel
theorem dL_law_757 : decode cL_law 757 = .ok (.ifCond .eq 7, 3) := by decide +kernel
theorem dL_law_760 : decode cL_law 760 = .ok (.iconst 1, 1) := by decide +kernel
theorem dL_law_761 : decode cL_law 761 = .ok (.goto 4, 3) := by decide +kernel
theorem dL_law_764 : decode cL_law 764 = .ok (.iconst 0, 1) := by decide +kernel
theorem dL_law_765 : decode cL_law 765 = .ok (.aload_n 0, 1) := by decide +kernel
theorem dL_law_766 : decode cL_law 766 = .ok (.iload_n 3, 1) := by decide +kernel
theorem dL_law_767 : decode cL_law 767 = .ok (.iconst 3, 1) := by decide +kernel
theorem dL_law_768 : decode cL_law 768 = .ok (.iadd, 1) := by decide +kernel
theorem dL_law_769 : decode cL_law 769 = .ok (.iaload, 1) := by decide +kernel
theorem dL_law_770 : decode cL_law 770 = .ok (.invokevirtual 91, 3) := by decide +kernel
theorem dL_law_773 : decode cL_law 773 = .ok (.if_icmp .eq 283, 3) := by decide +kernel
theorem dL_law_776 : decode cL_law 776 = .ok (.iconst 0, 1) := by decide +kernel
theorem dL_law_777 : decode cL_law 777 = .ok (.ireturn, 1) := by decide +kernel
theorem dL_law_778 : decode cL_law 778 = .ok (.aload_n 1, 1) := by decide +kernel
theorem dL_law_779 : decode cL_law 779 = .ok (.invokevirtual 92, 3) := by decide +kernel
theorem dL_law_782 : decode cL_law 782 = .ok (.aload_n 2, 1) := by decide +kernel
theorem dL_law_783 : decode cL_law 783 = .ok (.invokevirtual 95, 3) := by decide +kernel
theorem dL_law_786 : decode cL_law 786 = .ok (.if_icmp .eq 270, 3) := by decide +kernel
theorem dL_law_789 : decode cL_law 789 = .ok (.iconst 0, 1) := by decide +kernel
theorem dL_law_790 : decode cL_law 790 = .ok (.ireturn, 1) := by decide +kernel
theorem dL_law_791 : decode cL_law 791 = .ok (.aload_n 1, 1) := by decide +kernel
theorem dL_law_792 : decode cL_law 792 = .ok (.aload_n 0, 1) := by decide +kernel
theorem dL_law_793 : decode cL_law 793 = .ok (.iload_n 3, 1) := by decide +kernel
theorem dL_law_794 : decode cL_law 794 = .ok (.iconst 1, 1) := by decide +kernel
theorem dL_law_795 : decode cL_law 795 = .ok (.iadd, 1) := by decide +kernel
theorem dL_law_796 : decode cL_law 796 = .ok (.iaload, 1) := by decide +kernel
theorem dL_law_797 : decode cL_law 797 = .ok (.invokevirtual 96, 3) := by decide +kernel
theorem dL_law_800 : decode cL_law 800 = .ok (.aload_n 2, 1) := by decide +kernel
theorem dL_law_801 : decode cL_law 801 = .ok (.aload_n 0, 1) := by decide +kernel
theorem dL_law_802 : decode cL_law 802 = .ok (.iload_n 3, 1) := by decide +kernel
theorem dL_law_803 : decode cL_law 803 = .ok (.iconst 1, 1) := by decide +kernel
theorem dL_law_804 : decode cL_law 804 = .ok (.iadd, 1) := by decide +kernel
theorem dL_law_805 : decode cL_law 805 = .ok (.iaload, 1) := by decide +kernel
theorem dL_law_806 : decode cL_law 806 = .ok (.invokevirtual 99, 3) := by decide +kernel
theorem dL_law_809 : decode cL_law 809 = .ok (.if_icmp .eq 247, 3) := by decide +kernel
theorem dL_law_812 : decode cL_law 812 = .ok (.iconst 0, 1) := by decide +kernel
theorem dL_law_813 : decode cL_law 813 = .ok (.ireturn, 1) := by decide +kernel
theorem dL_law_814 : decode cL_law 814 = .ok (.aload_n 1, 1) := by decide +kernel
theorem dL_law_815 : decode cL_law 815 = .ok (.aload_n 0, 1) := by decide +kernel
theorem dL_law_816 : decode cL_law 816 = .ok (.iload_n 3, 1) := by decide +kernel
theorem dL_law_817 : decode cL_law 817 = .ok (.iconst 1, 1) := by decide +kernel
theorem dL_law_818 : decode cL_law 818 = .ok (.iadd, 1) := by decide +kernel
theorem dL_law_819 : decode cL_law 819 = .ok (.iaload, 1) := by decide +kernel
theorem dL_law_820 : decode cL_law 820 = .ok (.invokevirtual 100, 3) := by decide +kernel
theorem dL_law_823 : decode cL_law 823 = .ok (.aload_n 2, 1) := by decide +kernel
theorem dL_law_824 : decode cL_law 824 = .ok (.aload_n 0, 1) := by decide +kernel
theorem dL_law_825 : decode cL_law 825 = .ok (.iload_n 3, 1) := by decide +kernel
theorem dL_law_826 : decode cL_law 826 = .ok (.iconst 1, 1) := by decide +kernel
theorem dL_law_827 : decode cL_law 827 = .ok (.iadd, 1) := by decide +kernel
theorem dL_law_828 : decode cL_law 828 = .ok (.iaload, 1) := by decide +kernel
theorem dL_law_829 : decode cL_law 829 = .ok (.invokevirtual 103, 3) := by decide +kernel
theorem dL_law_832 : decode cL_law 832 = .ok (.if_icmp .eq 224, 3) := by decide +kernel
theorem dL_law_835 : decode cL_law 835 = .ok (.iconst 0, 1) := by decide +kernel
theorem dL_law_836 : decode cL_law 836 = .ok (.ireturn, 1) := by decide +kernel
theorem dL_law_837 : decode cL_law 837 = .ok (.aload_n 1, 1) := by decide +kernel
theorem dL_law_838 : decode cL_law 838 = .ok (.aload_n 0, 1) := by decide +kernel
theorem dL_law_839 : decode cL_law 839 = .ok (.iload_n 3, 1) := by decide +kernel
theorem dL_law_840 : decode cL_law 840 = .ok (.iconst 1, 1) := by decide +kernel
theorem dL_law_841 : decode cL_law 841 = .ok (.iadd, 1) := by decide +kernel
theorem dL_law_842 : decode cL_law 842 = .ok (.iaload, 1) := by decide +kernel
theorem dL_law_843 : decode cL_law 843 = .ok (.aload_n 0, 1) := by decide +kernel
theorem dL_law_844 : decode cL_law 844 = .ok (.iload_n 3, 1) := by decide +kernel
theorem dL_law_845 : decode cL_law 845 = .ok (.iconst 2, 1) := by decide +kernel
theorem dL_law_846 : decode cL_law 846 = .ok (.iadd, 1) := by decide +kernel
theorem dL_law_847 : decode cL_law 847 = .ok (.iaload, 1) := by decide +kernel
theorem dL_law_848 : decode cL_law 848 = .ok (.aload_n 0, 1) := by decide +kernel
theorem dL_law_849 : decode cL_law 849 = .ok (.iload_n 3, 1) := by decide +kernel
theorem dL_law_850 : decode cL_law 850 = .ok (.iconst 3, 1) := by decide +kernel
theorem dL_law_851 : decode cL_law 851 = .ok (.iadd, 1) := by decide +kernel
theorem dL_law_852 : decode cL_law 852 = .ok (.iaload, 1) := by decide +kernel
theorem dL_law_853 : decode cL_law 853 = .ok (.invokevirtual 104, 3) := by decide +kernel
theorem dL_law_856 : decode cL_law 856 = .ok (.aload_n 2, 1) := by decide +kernel
theorem dL_law_857 : decode cL_law 857 = .ok (.aload_n 0, 1) := by decide +kernel
theorem dL_law_858 : decode cL_law 858 = .ok (.iload_n 3, 1) := by decide +kernel
theorem dL_law_859 : decode cL_law 859 = .ok (.iconst 1, 1) := by decide +kernel
theorem dL_law_860 : decode cL_law 860 = .ok (.iadd, 1) := by decide +kernel
theorem dL_law_861 : decode cL_law 861 = .ok (.iaload, 1) := by decide +kernel
theorem dL_law_862 : decode cL_law 862 = .ok (.aload_n 0, 1) := by decide +kernel
theorem dL_law_863 : decode cL_law 863 = .ok (.iload_n 3, 1) := by decide +kernel
theorem dL_law_864 : decode cL_law 864 = .ok (.iconst 2, 1) := by decide +kernel
theorem dL_law_865 : decode cL_law 865 = .ok (.iadd, 1) := by decide +kernel
theorem dL_law_866 : decode cL_law 866 = .ok (.iaload, 1) := by decide +kernel
theorem dL_law_867 : decode cL_law 867 = .ok (.aload_n 0, 1) := by decide +kernel
theorem dL_law_868 : decode cL_law 868 = .ok (.iload_n 3, 1) := by decide +kernel
theorem dL_law_869 : decode cL_law 869 = .ok (.iconst 3, 1) := by decide +kernel
theorem dL_law_870 : decode cL_law 870 = .ok (.iadd, 1) := by decide +kernel
theorem dL_law_871 : decode cL_law 871 = .ok (.iaload, 1) := by decide +kernel
theorem dL_law_872 : decode cL_law 872 = .ok (.invokevirtual 107, 3) := by decide +kernel
theorem dL_law_875 : decode cL_law 875 = .ok (.if_icmp .eq 181, 3) := by decide +kernel
theorem dL_law_878 : decode cL_law 878 = .ok (.iconst 0, 1) := by decide +kernel
theorem dL_law_879 : decode cL_law 879 = .ok (.ireturn, 1) := by decide +kernel
theorem dL_law_880 : decode cL_law 880 = .ok (.aload_n 1, 1) := by decide +kernel
theorem dL_law_881 : decode cL_law 881 = .ok (.aload_n 0, 1) := by decide +kernel
theorem dL_law_882 : decode cL_law 882 = .ok (.iload_n 3, 1) := by decide +kernel
theorem dL_law_883 : decode cL_law 883 = .ok (.iconst 1, 1) := by decide +kernel
theorem dL_law_884 : decode cL_law 884 = .ok (.iadd, 1) := by decide +kernel
theorem dL_law_885 : decode cL_law 885 = .ok (.iaload, 1) := by decide +kernel
theorem dL_law_886 : decode cL_law 886 = .ok (.aload_n 0, 1) := by decide +kernel
theorem dL_law_887 : decode cL_law 887 = .ok (.iload_n 3, 1) := by decide +kernel
theorem dL_law_888 : decode cL_law 888 = .ok (.iconst 2, 1) := by decide +kernel
theorem dL_law_889 : decode cL_law 889 = .ok (.iadd, 1) := by decide +kernel
theorem dL_law_890 : decode cL_law 890 = .ok (.iaload, 1) := by decide +kernel
theorem dL_law_891 : decode cL_law 891 = .ok (.aload_n 0, 1) := by decide +kernel
theorem dL_law_892 : decode cL_law 892 = .ok (.iload_n 3, 1) := by decide +kernel
theorem dL_law_893 : decode cL_law 893 = .ok (.iconst 3, 1) := by decide +kernel
theorem dL_law_894 : decode cL_law 894 = .ok (.iadd, 1) := by decide +kernel
theorem dL_law_895 : decode cL_law 895 = .ok (.iaload, 1) := by decide +kernel
theorem dL_law_896 : decode cL_law 896 = .ok (.aload_n 0, 1) := by decide +kernel
theorem dL_law_897 : decode cL_law 897 = .ok (.iload_n 3, 1) := by decide +kernel
theorem dL_law_898 : decode cL_law 898 = .ok (.iconst 4, 1) := by decide +kernel
theorem dL_law_899 : decode cL_law 899 = .ok (.iadd, 1) := by decide +kernel
theorem dL_law_900 : decode cL_law 900 = .ok (.iaload, 1) := by decide +kernel
theorem dL_law_901 : decode cL_law 901 = .ok (.aload_n 0, 1) := by decide +kernel
theorem dL_law_902 : decode cL_law 902 = .ok (.iload_n 3, 1) := by decide +kernel
theorem dL_law_903 : decode cL_law 903 = .ok (.iconst 5, 1) := by decide +kernel
theorem dL_law_904 : decode cL_law 904 = .ok (.iadd, 1) := by decide +kernel
theorem dL_law_905 : decode cL_law 905 = .ok (.iaload, 1) := by decide +kernel
theorem dL_law_906 : decode cL_law 906 = .ok (.invokevirtual 108, 3) := by decide +kernel
theorem dL_law_909 : decode cL_law 909 = .ok (.aload_n 2, 1) := by decide +kernel
theorem dL_law_910 : decode cL_law 910 = .ok (.aload_n 0, 1) := by decide +kernel
theorem dL_law_911 : decode cL_law 911 = .ok (.iload_n 3, 1) := by decide +kernel
theorem dL_law_912 : decode cL_law 912 = .ok (.iconst 1, 1) := by decide +kernel
theorem dL_law_913 : decode cL_law 913 = .ok (.iadd, 1) := by decide +kernel
theorem dL_law_914 : decode cL_law 914 = .ok (.iaload, 1) := by decide +kernel
theorem dL_law_915 : decode cL_law 915 = .ok (.aload_n 0, 1) := by decide +kernel
theorem dL_law_916 : decode cL_law 916 = .ok (.iload_n 3, 1) := by decide +kernel
theorem dL_law_917 : decode cL_law 917 = .ok (.iconst 2, 1) := by decide +kernel
theorem dL_law_918 : decode cL_law 918 = .ok (.iadd, 1) := by decide +kernel
theorem dL_law_919 : decode cL_law 919 = .ok (.iaload, 1) := by decide +kernel
theorem dL_law_920 : decode cL_law 920 = .ok (.aload_n 0, 1) := by decide +kernel
theorem dL_law_921 : decode cL_law 921 = .ok (.iload_n 3, 1) := by decide +kernel
theorem dL_law_922 : decode cL_law 922 = .ok (.iconst 3, 1) := by decide +kernel
theorem dL_law_923 : decode cL_law 923 = .ok (.iadd, 1) := by decide +kernel
theorem dL_law_924 : decode cL_law 924 = .ok (.iaload, 1) := by decide +kernel
theorem dL_law_925 : decode cL_law 925 = .ok (.aload_n 0, 1) := by decide +kernel
theorem dL_law_926 : decode cL_law 926 = .ok (.iload_n 3, 1) := by decide +kernel
theorem dL_law_927 : decode cL_law 927 = .ok (.iconst 4, 1) := by decide +kernel
theorem dL_law_928 : decode cL_law 928 = .ok (.iadd, 1) := by decide +kernel
theorem dL_law_929 : decode cL_law 929 = .ok (.iaload, 1) := by decide +kernel
theorem dL_law_930 : decode cL_law 930 = .ok (.aload_n 0, 1) := by decide +kernel
theorem dL_law_931 : decode cL_law 931 = .ok (.iload_n 3, 1) := by decide +kernel
theorem dL_law_932 : decode cL_law 932 = .ok (.iconst 5, 1) := by decide +kernel
theorem dL_law_933 : decode cL_law 933 = .ok (.iadd, 1) := by decide +kernel
theorem dL_law_934 : decode cL_law 934 = .ok (.iaload, 1) := by decide +kernel
theorem dL_law_935 : decode cL_law 935 = .ok (.invokevirtual 112, 3) := by decide +kernel
theorem dL_law_938 : decode cL_law 938 = .ok (.lcmp, 1) := by decide +kernel
theorem dL_law_939 : decode cL_law 939 = .ok (.ifCond .eq 117, 3) := by decide +kernel
theorem dL_law_942 : decode cL_law 942 = .ok (.iconst 0, 1) := by decide +kernel
theorem dL_law_943 : decode cL_law 943 = .ok (.ireturn, 1) := by decide +kernel
theorem dL_law_944 : decode cL_law 944 = .ok (.aload_n 1, 1) := by decide +kernel
theorem dL_law_945 : decode cL_law 945 = .ok (.aload_n 0, 1) := by decide +kernel
theorem dL_law_946 : decode cL_law 946 = .ok (.iload_n 3, 1) := by decide +kernel
theorem dL_law_947 : decode cL_law 947 = .ok (.iconst 1, 1) := by decide +kernel
theorem dL_law_948 : decode cL_law 948 = .ok (.iadd, 1) := by decide +kernel
theorem dL_law_949 : decode cL_law 949 = .ok (.iaload, 1) := by decide +kernel
theorem dL_law_950 : decode cL_law 950 = .ok (.aload_n 0, 1) := by decide +kernel
theorem dL_law_951 : decode cL_law 951 = .ok (.iload_n 3, 1) := by decide +kernel
theorem dL_law_952 : decode cL_law 952 = .ok (.iconst 2, 1) := by decide +kernel
theorem dL_law_953 : decode cL_law 953 = .ok (.iadd, 1) := by decide +kernel
theorem dL_law_954 : decode cL_law 954 = .ok (.iaload, 1) := by decide +kernel
theorem dL_law_955 : decode cL_law 955 = .ok (.aload_n 0, 1) := by decide +kernel
theorem dL_law_956 : decode cL_law 956 = .ok (.iload_n 3, 1) := by decide +kernel
theorem dL_law_957 : decode cL_law 957 = .ok (.iconst 3, 1) := by decide +kernel
theorem dL_law_958 : decode cL_law 958 = .ok (.iadd, 1) := by decide +kernel
theorem dL_law_959 : decode cL_law 959 = .ok (.iaload, 1) := by decide +kernel
theorem dL_law_960 : decode cL_law 960 = .ok (.invokevirtual 113, 3) := by decide +kernel
theorem dL_law_963 : decode cL_law 963 = .ok (.aload_n 2, 1) := by decide +kernel
theorem dL_law_964 : decode cL_law 964 = .ok (.aload_n 0, 1) := by decide +kernel
theorem dL_law_965 : decode cL_law 965 = .ok (.iload_n 3, 1) := by decide +kernel
theorem dL_law_966 : decode cL_law 966 = .ok (.iconst 1, 1) := by decide +kernel
theorem dL_law_967 : decode cL_law 967 = .ok (.iadd, 1) := by decide +kernel
theorem dL_law_968 : decode cL_law 968 = .ok (.iaload, 1) := by decide +kernel
theorem dL_law_969 : decode cL_law 969 = .ok (.aload_n 0, 1) := by decide +kernel
theorem dL_law_970 : decode cL_law 970 = .ok (.iload_n 3, 1) := by decide +kernel
theorem dL_law_971 : decode cL_law 971 = .ok (.iconst 2, 1) := by decide +kernel
theorem dL_law_972 : decode cL_law 972 = .ok (.iadd, 1) := by decide +kernel
theorem dL_law_973 : decode cL_law 973 = .ok (.iaload, 1) := by decide +kernel
theorem dL_law_974 : decode cL_law 974 = .ok (.aload_n 0, 1) := by decide +kernel
theorem dL_law_975 : decode cL_law 975 = .ok (.iload_n 3, 1) := by decide +kernel
theorem dL_law_976 : decode cL_law 976 = .ok (.iconst 3, 1) := by decide +kernel
theorem dL_law_977 : decode cL_law 977 = .ok (.iadd, 1) := by decide +kernel
theorem dL_law_978 : decode cL_law 978 = .ok (.iaload, 1) := by decide +kernel
theorem dL_law_979 : decode cL_law 979 = .ok (.invokevirtual 116, 3) := by decide +kernel
theorem dL_law_982 : decode cL_law 982 = .ok (.if_icmp .eq 74, 3) := by decide +kernel
theorem dL_law_985 : decode cL_law 985 = .ok (.iconst 0, 1) := by decide +kernel
theorem dL_law_986 : decode cL_law 986 = .ok (.ireturn, 1) := by decide +kernel
theorem dL_law_987 : decode cL_law 987 = .ok (.aload_n 1, 1) := by decide +kernel
theorem dL_law_988 : decode cL_law 988 = .ok (.aload_n 0, 1) := by decide +kernel
theorem dL_law_989 : decode cL_law 989 = .ok (.iload_n 3, 1) := by decide +kernel
theorem dL_law_990 : decode cL_law 990 = .ok (.iconst 1, 1) := by decide +kernel
theorem dL_law_991 : decode cL_law 991 = .ok (.iadd, 1) := by decide +kernel
theorem dL_law_992 : decode cL_law 992 = .ok (.iaload, 1) := by decide +kernel
theorem dL_law_993 : decode cL_law 993 = .ok (.invokevirtual 117, 3) := by decide +kernel
theorem dL_law_996 : decode cL_law 996 = .ok (.aload_n 2, 1) := by decide +kernel
theorem dL_law_997 : decode cL_law 997 = .ok (.aload_n 0, 1) := by decide +kernel
theorem dL_law_998 : decode cL_law 998 = .ok (.iload_n 3, 1) := by decide +kernel
theorem dL_law_999 : decode cL_law 999 = .ok (.iconst 1, 1) := by decide +kernel
theorem dL_law_1000 : decode cL_law 1000 = .ok (.iadd, 1) := by decide +kernel
theorem dL_law_1001 : decode cL_law 1001 = .ok (.iaload, 1) := by decide +kernel
theorem dL_law_1002 : decode cL_law 1002 = .ok (.invokevirtual 120, 3) := by decide +kernel
theorem dL_law_1005 : decode cL_law 1005 = .ok (.if_icmp .eq 51, 3) := by decide +kernel
theorem dL_law_1008 : decode cL_law 1008 = .ok (.iconst 0, 1) := by decide +kernel
theorem dL_law_1009 : decode cL_law 1009 = .ok (.ireturn, 1) := by decide +kernel
theorem dL_law_1010 : decode cL_law 1010 = .ok (.aload_n 1, 1) := by decide +kernel
theorem dL_law_1011 : decode cL_law 1011 = .ok (.aload_n 0, 1) := by decide +kernel
theorem dL_law_1012 : decode cL_law 1012 = .ok (.iload_n 3, 1) := by decide +kernel
theorem dL_law_1013 : decode cL_law 1013 = .ok (.iconst 1, 1) := by decide +kernel
theorem dL_law_1014 : decode cL_law 1014 = .ok (.iadd, 1) := by decide +kernel
theorem dL_law_1015 : decode cL_law 1015 = .ok (.iaload, 1) := by decide +kernel
theorem dL_law_1016 : decode cL_law 1016 = .ok (.invokevirtual 121, 3) := by decide +kernel
theorem dL_law_1019 : decode cL_law 1019 = .ok (.aload_n 2, 1) := by decide +kernel
theorem dL_law_1020 : decode cL_law 1020 = .ok (.aload_n 0, 1) := by decide +kernel
theorem dL_law_1021 : decode cL_law 1021 = .ok (.iload_n 3, 1) := by decide +kernel
theorem dL_law_1022 : decode cL_law 1022 = .ok (.iconst 1, 1) := by decide +kernel
theorem dL_law_1023 : decode cL_law 1023 = .ok (.iadd, 1) := by decide +kernel
theorem dL_law_1024 : decode cL_law 1024 = .ok (.iaload, 1) := by decide +kernel
theorem dL_law_1025 : decode cL_law 1025 = .ok (.invokevirtual 124, 3) := by decide +kernel
theorem dL_law_1028 : decode cL_law 1028 = .ok (.if_icmp .eq 28, 3) := by decide +kernel
theorem dL_law_1031 : decode cL_law 1031 = .ok (.iconst 0, 1) := by decide +kernel
theorem dL_law_1032 : decode cL_law 1032 = .ok (.ireturn, 1) := by decide +kernel
theorem dL_law_1033 : decode cL_law 1033 = .ok (.aload_n 1, 1) := by decide +kernel
theorem dL_law_1034 : decode cL_law 1034 = .ok (.aload_n 0, 1) := by decide +kernel
theorem dL_law_1035 : decode cL_law 1035 = .ok (.iload_n 3, 1) := by decide +kernel
theorem dL_law_1036 : decode cL_law 1036 = .ok (.iconst 1, 1) := by decide +kernel
theorem dL_law_1037 : decode cL_law 1037 = .ok (.iadd, 1) := by decide +kernel
theorem dL_law_1038 : decode cL_law 1038 = .ok (.iaload, 1) := by decide +kernel
theorem dL_law_1039 : decode cL_law 1039 = .ok (.invokevirtual 125, 3) := by decide +kernel
theorem dL_law_1042 : decode cL_law 1042 = .ok (.aload_n 2, 1) := by decide +kernel
theorem dL_law_1043 : decode cL_law 1043 = .ok (.aload_n 0, 1) := by decide +kernel
theorem dL_law_1044 : decode cL_law 1044 = .ok (.iload_n 3, 1) := by decide +kernel
theorem dL_law_1045 : decode cL_law 1045 = .ok (.iconst 1, 1) := by decide +kernel
theorem dL_law_1046 : decode cL_law 1046 = .ok (.iadd, 1) := by decide +kernel
theorem dL_law_1047 : decode cL_law 1047 = .ok (.iaload, 1) := by decide +kernel
theorem dL_law_1048 : decode cL_law 1048 = .ok (.invokevirtual 128, 3) := by decide +kernel
theorem dL_law_1051 : decode cL_law 1051 = .ok (.if_icmp .eq 5, 3) := by decide +kernel
theorem dL_law_1054 : decode cL_law 1054 = .ok (.iconst 0, 1) := by decide +kernel
theorem dL_law_1055 : decode cL_law 1055 = .ok (.ireturn, 1) := by decide +kernel
theorem dL_law_1056 : decode cL_law 1056 = .ok (.iinc 3 6, 3) := by decide +kernel
theorem dL_law_1059 : decode cL_law 1059 = .ok (.goto (-1041), 3) := by decide +kernel
theorem dL_law_1062 : decode cL_law 1062 = .ok (.iconst 1, 1) := by decide +kernel
theorem dL_law_1063 : decode cL_law 1063 = .ok (.ireturn, 1) := by decide +kernel
