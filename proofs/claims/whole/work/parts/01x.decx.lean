theorem dX0_init_0 : decode cX0_init 0 = .ok (.aload_n 0, 1) := by decide +kernel
theorem dX0_init_1 : decode cX0_init 1 = .ok (.invokespecial 3, 3) := by decide +kernel
theorem dX0_init_4 : decode cX0_init 4 = .ok (.aload_n 0, 1) := by decide +kernel
theorem dX0_init_5 : decode cX0_init 5 = .ok (.bipush 24, 2) := by decide +kernel
theorem dX0_init_7 : decode cX0_init 7 = .ok (.anewarray 9, 3) := by decide +kernel
theorem dX0_init_10 : decode cX0_init 10 = .ok (.putfield 11, 3) := by decide +kernel
theorem dX0_init_13 : decode cX0_init 13 = .ok (.iconst 0, 1) := by decide +kernel
theorem dX0_init_14 : decode cX0_init 14 = .ok (.istore_n 1, 1) := by decide +kernel
theorem dX0_init_15 : decode cX0_init 15 = .ok (.iload_n 1, 1) := by decide +kernel
theorem dX0_init_16 : decode cX0_init 16 = .ok (.bipush 24, 2) := by decide +kernel
theorem dX0_init_18 : decode cX0_init 18 = .ok (.if_icmp .ge 22, 3) := by decide +kernel
theorem dX0_init_21 : decode cX0_init 21 = .ok (.aload_n 0, 1) := by decide +kernel
theorem dX0_init_22 : decode cX0_init 22 = .ok (.getfield 11, 3) := by decide +kernel
theorem dX0_init_25 : decode cX0_init 25 = .ok (.iload_n 1, 1) := by decide +kernel
theorem dX0_init_26 : decode cX0_init 26 = .ok (.new 9, 3) := by decide +kernel
theorem dX0_init_29 : decode cX0_init 29 = .ok (.dup, 1) := by decide +kernel
theorem dX0_init_30 : decode cX0_init 30 = .ok (.invokespecial 17, 3) := by decide +kernel
theorem dX0_init_33 : decode cX0_init 33 = .ok (.aastore, 1) := by decide +kernel
theorem dX0_init_34 : decode cX0_init 34 = .ok (.iinc 1 1, 3) := by decide +kernel
theorem dX0_init_37 : decode cX0_init 37 = .ok (.goto (-22), 3) := by decide +kernel
theorem dX0_init_40 : decode cX0_init 40 = .ok (.return_, 1) := by decide +kernel
theorem dX0_forget_0 : decode cX0_forget 0 = .ok (.aload_n 0, 1) := by decide +kernel
theorem dX0_forget_1 : decode cX0_forget 1 = .ok (.iconst 0, 1) := by decide +kernel
theorem dX0_forget_2 : decode cX0_forget 2 = .ok (.putfield 18, 3) := by decide +kernel
theorem dX0_forget_5 : decode cX0_forget 5 = .ok (.return_, 1) := by decide +kernel
theorem dX0_keep_0 : decode cX0_keep 0 = .ok (.aload_n 0, 1) := by decide +kernel
theorem dX0_keep_1 : decode cX0_keep 1 = .ok (.getfield 11, 3) := by decide +kernel
theorem dX0_keep_4 : decode cX0_keep 4 = .ok (.aload_n 0, 1) := by decide +kernel
theorem dX0_keep_5 : decode cX0_keep 5 = .ok (.getfield 22, 3) := by decide +kernel
theorem dX0_keep_8 : decode cX0_keep 8 = .ok (.aload_n 0, 1) := by decide +kernel
theorem dX0_keep_9 : decode cX0_keep 9 = .ok (.getfield 18, 3) := by decide +kernel
theorem dX0_keep_12 : decode cX0_keep 12 = .ok (.iadd, 1) := by decide +kernel
theorem dX0_keep_13 : decode cX0_keep 13 = .ok (.bipush 24, 2) := by decide +kernel
theorem dX0_keep_15 : decode cX0_keep 15 = .ok (.irem, 1) := by decide +kernel
theorem dX0_keep_16 : decode cX0_keep 16 = .ok (.aaload, 1) := by decide +kernel
theorem dX0_keep_17 : decode cX0_keep 17 = .ok (.aload_n 1, 1) := by decide +kernel
theorem dX0_keep_18 : decode cX0_keep 18 = .ok (.invokevirtual 25, 3) := by decide +kernel
theorem dX0_keep_21 : decode cX0_keep 21 = .ok (.aload_n 0, 1) := by decide +kernel
theorem dX0_keep_22 : decode cX0_keep 22 = .ok (.getfield 18, 3) := by decide +kernel
theorem dX0_keep_25 : decode cX0_keep 25 = .ok (.bipush 24, 2) := by decide +kernel
theorem dX0_keep_27 : decode cX0_keep 27 = .ok (.if_icmp .ge 16, 3) := by decide +kernel
theorem dX0_keep_30 : decode cX0_keep 30 = .ok (.aload_n 0, 1) := by decide +kernel
theorem dX0_keep_31 : decode cX0_keep 31 = .ok (.dup, 1) := by decide +kernel
theorem dX0_keep_32 : decode cX0_keep 32 = .ok (.getfield 18, 3) := by decide +kernel
theorem dX0_keep_35 : decode cX0_keep 35 = .ok (.iconst 1, 1) := by decide +kernel
theorem dX0_keep_36 : decode cX0_keep 36 = .ok (.iadd, 1) := by decide +kernel
theorem dX0_keep_37 : decode cX0_keep 37 = .ok (.putfield 18, 3) := by decide +kernel
theorem dX0_keep_40 : decode cX0_keep 40 = .ok (.goto 16, 3) := by decide +kernel
theorem dX0_keep_43 : decode cX0_keep 43 = .ok (.aload_n 0, 1) := by decide +kernel
theorem dX0_keep_44 : decode cX0_keep 44 = .ok (.aload_n 0, 1) := by decide +kernel
theorem dX0_keep_45 : decode cX0_keep 45 = .ok (.getfield 22, 3) := by decide +kernel
theorem dX0_keep_48 : decode cX0_keep 48 = .ok (.iconst 1, 1) := by decide +kernel
theorem dX0_keep_49 : decode cX0_keep 49 = .ok (.iadd, 1) := by decide +kernel
theorem dX0_keep_50 : decode cX0_keep 50 = .ok (.bipush 24, 2) := by decide +kernel
theorem dX0_keep_52 : decode cX0_keep 52 = .ok (.irem, 1) := by decide +kernel
theorem dX0_keep_53 : decode cX0_keep 53 = .ok (.putfield 22, 3) := by decide +kernel
theorem dX0_keep_56 : decode cX0_keep 56 = .ok (.return_, 1) := by decide +kernel
theorem dX0_takeBack_0 : decode cX0_takeBack 0 = .ok (.aload_n 0, 1) := by decide +kernel
theorem dX0_takeBack_1 : decode cX0_takeBack 1 = .ok (.getfield 18, 3) := by decide +kernel
theorem dX0_takeBack_4 : decode cX0_takeBack 4 = .ok (.ifCond .le 34, 3) := by decide +kernel
theorem dX0_takeBack_7 : decode cX0_takeBack 7 = .ok (.aload_n 0, 1) := by decide +kernel
theorem dX0_takeBack_8 : decode cX0_takeBack 8 = .ok (.dup, 1) := by decide +kernel
theorem dX0_takeBack_9 : decode cX0_takeBack 9 = .ok (.getfield 18, 3) := by decide +kernel
theorem dX0_takeBack_12 : decode cX0_takeBack 12 = .ok (.iconst 1, 1) := by decide +kernel
theorem dX0_takeBack_13 : decode cX0_takeBack 13 = .ok (.isub, 1) := by decide +kernel
theorem dX0_takeBack_14 : decode cX0_takeBack 14 = .ok (.putfield 18, 3) := by decide +kernel
theorem dX0_takeBack_17 : decode cX0_takeBack 17 = .ok (.aload_n 1, 1) := by decide +kernel
theorem dX0_takeBack_18 : decode cX0_takeBack 18 = .ok (.aload_n 0, 1) := by decide +kernel
theorem dX0_takeBack_19 : decode cX0_takeBack 19 = .ok (.getfield 11, 3) := by decide +kernel
theorem dX0_takeBack_22 : decode cX0_takeBack 22 = .ok (.aload_n 0, 1) := by decide +kernel
theorem dX0_takeBack_23 : decode cX0_takeBack 23 = .ok (.getfield 22, 3) := by decide +kernel
theorem dX0_takeBack_26 : decode cX0_takeBack 26 = .ok (.aload_n 0, 1) := by decide +kernel
theorem dX0_takeBack_27 : decode cX0_takeBack 27 = .ok (.getfield 18, 3) := by decide +kernel
theorem dX0_takeBack_30 : decode cX0_takeBack 30 = .ok (.iadd, 1) := by decide +kernel
theorem dX0_takeBack_31 : decode cX0_takeBack 31 = .ok (.bipush 24, 2) := by decide +kernel
theorem dX0_takeBack_33 : decode cX0_takeBack 33 = .ok (.irem, 1) := by decide +kernel
theorem dX0_takeBack_34 : decode cX0_takeBack 34 = .ok (.aaload, 1) := by decide +kernel
theorem dX0_takeBack_35 : decode cX0_takeBack 35 = .ok (.invokevirtual 25, 3) := by decide +kernel
theorem dX0_takeBack_38 : decode cX0_takeBack 38 = .ok (.return_, 1) := by decide +kernel
theorem dX1_init_0 : decode cX1_init 0 = .ok (.aload_n 0, 1) := by decide +kernel
theorem dX1_init_1 : decode cX1_init 1 = .ok (.invokespecial 3, 3) := by decide +kernel
theorem dX1_init_4 : decode cX1_init 4 = .ok (.aload_n 0, 1) := by decide +kernel
theorem dX1_init_5 : decode cX1_init 5 = .ok (.bipush 16, 2) := by decide +kernel
theorem dX1_init_7 : decode cX1_init 7 = .ok (.newarray .int, 2) := by decide +kernel
theorem dX1_init_9 : decode cX1_init 9 = .ok (.putfield 11, 3) := by decide +kernel
theorem dX1_init_12 : decode cX1_init 12 = .ok (.return_, 1) := by decide +kernel
theorem dX1_turnTo_0 : decode cX1_turnTo 0 = .ok (.aload_n 0, 1) := by decide +kernel
theorem dX1_turnTo_1 : decode cX1_turnTo 1 = .ok (.iconst 0, 1) := by decide +kernel
theorem dX1_turnTo_2 : decode cX1_turnTo 2 = .ok (.putfield 15, 3) := by decide +kernel
theorem dX1_turnTo_5 : decode cX1_turnTo 5 = .ok (.aload_n 0, 1) := by decide +kernel
theorem dX1_turnTo_6 : decode cX1_turnTo 6 = .ok (.iload_n 2, 1) := by decide +kernel
theorem dX1_turnTo_7 : decode cX1_turnTo 7 = .ok (.putfield 19, 3) := by decide +kernel
theorem dX1_turnTo_10 : decode cX1_turnTo 10 = .ok (.aload_n 0, 1) := by decide +kernel
theorem dX1_turnTo_11 : decode cX1_turnTo 11 = .ok (.aload_n 1, 1) := by decide +kernel
theorem dX1_turnTo_12 : decode cX1_turnTo 12 = .ok (.getfield 22, 3) := by decide +kernel
theorem dX1_turnTo_15 : decode cX1_turnTo 15 = .ok (.iload_n 2, 1) := by decide +kernel
theorem dX1_turnTo_16 : decode cX1_turnTo 16 = .ok (.iaload, 1) := by decide +kernel
theorem dX1_turnTo_17 : decode cX1_turnTo 17 = .ok (.putfield 27, 3) := by decide +kernel
theorem dX1_turnTo_20 : decode cX1_turnTo 20 = .ok (.aload_n 0, 1) := by decide +kernel
theorem dX1_turnTo_21 : decode cX1_turnTo 21 = .ok (.aload_n 1, 1) := by decide +kernel
theorem dX1_turnTo_22 : decode cX1_turnTo 22 = .ok (.getfield 29, 3) := by decide +kernel
theorem dX1_turnTo_25 : decode cX1_turnTo 25 = .ok (.iload_n 2, 1) := by decide +kernel
theorem dX1_turnTo_26 : decode cX1_turnTo 26 = .ok (.iaload, 1) := by decide +kernel
theorem dX1_turnTo_27 : decode cX1_turnTo 27 = .ok (.putfield 32, 3) := by decide +kernel
theorem dX1_turnTo_30 : decode cX1_turnTo 30 = .ok (.aload_n 0, 1) := by decide +kernel
theorem dX1_turnTo_31 : decode cX1_turnTo 31 = .ok (.aload_n 1, 1) := by decide +kernel
theorem dX1_turnTo_32 : decode cX1_turnTo 32 = .ok (.getfield 34, 3) := by decide +kernel
theorem dX1_turnTo_35 : decode cX1_turnTo 35 = .ok (.iload_n 2, 1) := by decide +kernel
theorem dX1_turnTo_36 : decode cX1_turnTo 36 = .ok (.iaload, 1) := by decide +kernel
theorem dX1_turnTo_37 : decode cX1_turnTo 37 = .ok (.putfield 37, 3) := by decide +kernel
theorem dX1_turnTo_40 : decode cX1_turnTo 40 = .ok (.return_, 1) := by decide +kernel
theorem dX1_leave_0 : decode cX1_leave 0 = .ok (.aload_n 0, 1) := by decide +kernel
theorem dX1_leave_1 : decode cX1_leave 1 = .ok (.getfield 15, 3) := by decide +kernel
theorem dX1_leave_4 : decode cX1_leave 4 = .ok (.bipush 16, 2) := by decide +kernel
theorem dX1_leave_6 : decode cX1_leave 6 = .ok (.if_icmp .ge 23, 3) := by decide +kernel
theorem dX1_leave_9 : decode cX1_leave 9 = .ok (.aload_n 0, 1) := by decide +kernel
theorem dX1_leave_10 : decode cX1_leave 10 = .ok (.getfield 11, 3) := by decide +kernel
theorem dX1_leave_13 : decode cX1_leave 13 = .ok (.aload_n 0, 1) := by decide +kernel
theorem dX1_leave_14 : decode cX1_leave 14 = .ok (.getfield 15, 3) := by decide +kernel
theorem dX1_leave_17 : decode cX1_leave 17 = .ok (.iload_n 1, 1) := by decide +kernel
theorem dX1_leave_18 : decode cX1_leave 18 = .ok (.iastore, 1) := by decide +kernel
theorem dX1_leave_19 : decode cX1_leave 19 = .ok (.aload_n 0, 1) := by decide +kernel
theorem dX1_leave_20 : decode cX1_leave 20 = .ok (.dup, 1) := by decide +kernel
theorem dX1_leave_21 : decode cX1_leave 21 = .ok (.getfield 15, 3) := by decide +kernel
theorem dX1_leave_24 : decode cX1_leave 24 = .ok (.iconst 1, 1) := by decide +kernel
theorem dX1_leave_25 : decode cX1_leave 25 = .ok (.iadd, 1) := by decide +kernel
theorem dX1_leave_26 : decode cX1_leave 26 = .ok (.putfield 15, 3) := by decide +kernel
theorem dX1_leave_29 : decode cX1_leave 29 = .ok (.return_, 1) := by decide +kernel
theorem dX1_size_0 : decode cX1_size 0 = .ok (.aload_n 0, 1) := by decide +kernel
theorem dX1_size_1 : decode cX1_size 1 = .ok (.getfield 27, 3) := by decide +kernel
theorem dX1_size_4 : decode cX1_size 4 = .ok (.iconst 4, 1) := by decide +kernel
theorem dX1_size_5 : decode cX1_size 5 = .ok (.if_icmp .eq 11, 3) := by decide +kernel
theorem dX1_size_8 : decode cX1_size 8 = .ok (.aload_n 0, 1) := by decide +kernel
theorem dX1_size_9 : decode cX1_size 9 = .ok (.getfield 27, 3) := by decide +kernel
theorem dX1_size_12 : decode cX1_size 12 = .ok (.iconst 5, 1) := by decide +kernel
theorem dX1_size_13 : decode cX1_size 13 = .ok (.if_icmp .ne 8, 3) := by decide +kernel
theorem dX1_size_16 : decode cX1_size 16 = .ok (.aload_n 0, 1) := by decide +kernel
theorem dX1_size_17 : decode cX1_size 17 = .ok (.invokevirtual 39, 3) := by decide +kernel
theorem dX1_size_20 : decode cX1_size 20 = .ok (.ireturn, 1) := by decide +kernel
theorem dX1_size_21 : decode cX1_size 21 = .ok (.aload_n 0, 1) := by decide +kernel
theorem dX1_size_22 : decode cX1_size 22 = .ok (.getfield 27, 3) := by decide +kernel
theorem dX1_size_25 : decode cX1_size 25 = .ok (.iconst 2, 1) := by decide +kernel
theorem dX1_size_26 : decode cX1_size 26 = .ok (.if_icmp .ne 15, 3) := by decide +kernel
theorem dX1_size_29 : decode cX1_size 29 = .ok (.aload_n 0, 1) := by decide +kernel
theorem dX1_size_30 : decode cX1_size 30 = .ok (.bipush 12, 2) := by decide +kernel
theorem dX1_size_32 : decode cX1_size 32 = .ok (.invokevirtual 43, 3) := by decide +kernel
theorem dX1_size_35 : decode cX1_size 35 = .ok (.aload_n 0, 1) := by decide +kernel
theorem dX1_size_36 : decode cX1_size 36 = .ok (.invokevirtual 47, 3) := by decide +kernel
theorem dX1_size_39 : decode cX1_size 39 = .ok (.ineg, 1) := by decide +kernel
theorem dX1_size_40 : decode cX1_size 40 = .ok (.ireturn, 1) := by decide +kernel
theorem dX1_size_41 : decode cX1_size 41 = .ok (.aload_n 0, 1) := by decide +kernel
theorem dX1_size_42 : decode cX1_size 42 = .ok (.invokevirtual 47, 3) := by decide +kernel
theorem dX1_size_45 : decode cX1_size 45 = .ok (.ireturn, 1) := by decide +kernel
theorem dX1_mark_0 : decode cX1_mark 0 = .ok (.aload_n 0, 1) := by decide +kernel
theorem dX1_mark_1 : decode cX1_mark 1 = .ok (.getfield 27, 3) := by decide +kernel
theorem dX1_mark_4 : decode cX1_mark 4 = .ok (.iconst 4, 1) := by decide +kernel
theorem dX1_mark_5 : decode cX1_mark 5 = .ok (.if_icmp .eq 11, 3) := by decide +kernel
theorem dX1_mark_8 : decode cX1_mark 8 = .ok (.aload_n 0, 1) := by decide +kernel
theorem dX1_mark_9 : decode cX1_mark 9 = .ok (.getfield 27, 3) := by decide +kernel
theorem dX1_mark_12 : decode cX1_mark 12 = .ok (.iconst 5, 1) := by decide +kernel
theorem dX1_mark_13 : decode cX1_mark 13 = .ok (.if_icmp .ne 10, 3) := by decide +kernel
theorem dX1_mark_16 : decode cX1_mark 16 = .ok (.aload_n 0, 1) := by decide +kernel
theorem dX1_mark_17 : decode cX1_mark 17 = .ok (.invokevirtual 50, 3) := by decide +kernel
theorem dX1_mark_20 : decode cX1_mark 20 = .ok (.goto 7, 3) := by decide +kernel
theorem dX1_mark_23 : decode cX1_mark 23 = .ok (.aload_n 0, 1) := by decide +kernel
theorem dX1_mark_24 : decode cX1_mark 24 = .ok (.invokevirtual 53, 3) := by decide +kernel
theorem dX1_mark_27 : decode cX1_mark 27 = .ok (.ireturn, 1) := by decide +kernel
theorem dX1_sizeInParish_0 : decode cX1_sizeInParish 0 = .ok (.aload_n 0, 1) := by decide +kernel
theorem dX1_sizeInParish_1 : decode cX1_sizeInParish 1 = .ok (.getfield 27, 3) := by decide +kernel
theorem dX1_sizeInParish_4 : decode cX1_sizeInParish 4 = .ok (.iconst 5, 1) := by decide +kernel
theorem dX1_sizeInParish_5 : decode cX1_sizeInParish 5 = .ok (.if_icmp .ne 16, 3) := by decide +kernel
theorem dX1_sizeInParish_8 : decode cX1_sizeInParish 8 = .ok (.aload_n 0, 1) := by decide +kernel
theorem dX1_sizeInParish_9 : decode cX1_sizeInParish 9 = .ok (.bipush 14, 2) := by decide +kernel
theorem dX1_sizeInParish_11 : decode cX1_sizeInParish 11 = .ok (.invokevirtual 43, 3) := by decide +kernel
theorem dX1_sizeInParish_14 : decode cX1_sizeInParish 14 = .ok (.iconst 2, 1) := by decide +kernel
theorem dX1_sizeInParish_15 : decode cX1_sizeInParish 15 = .ok (.aload_n 0, 1) := by decide +kernel
theorem dX1_sizeInParish_16 : decode cX1_sizeInParish 16 = .ok (.invokevirtual 56, 3) := by decide +kernel
theorem dX1_sizeInParish_19 : decode cX1_sizeInParish 19 = .ok (.imul, 1) := by decide +kernel
theorem dX1_sizeInParish_20 : decode cX1_sizeInParish 20 = .ok (.ireturn, 1) := by decide +kernel
theorem dX1_sizeInParish_21 : decode cX1_sizeInParish 21 = .ok (.aload_n 0, 1) := by decide +kernel
theorem dX1_sizeInParish_22 : decode cX1_sizeInParish 22 = .ok (.invokevirtual 56, 3) := by decide +kernel
theorem dX1_sizeInParish_25 : decode cX1_sizeInParish 25 = .ok (.ireturn, 1) := by decide +kernel
theorem dX1_markInWood_0 : decode cX1_markInWood 0 = .ok (.aload_n 0, 1) := by decide +kernel
theorem dX1_markInWood_1 : decode cX1_markInWood 1 = .ok (.getfield 27, 3) := by decide +kernel
theorem dX1_markInWood_4 : decode cX1_markInWood 4 = .ok (.iconst 2, 1) := by decide +kernel
theorem dX1_markInWood_5 : decode cX1_markInWood 5 = .ok (.if_icmp .ne 16, 3) := by decide +kernel
theorem dX1_markInWood_8 : decode cX1_markInWood 8 = .ok (.aload_n 0, 1) := by decide +kernel
theorem dX1_markInWood_9 : decode cX1_markInWood 9 = .ok (.bipush 24, 2) := by decide +kernel
theorem dX1_markInWood_11 : decode cX1_markInWood 11 = .ok (.invokevirtual 43, 3) := by decide +kernel
theorem dX1_markInWood_14 : decode cX1_markInWood 14 = .ok (.iconst 2, 1) := by decide +kernel
theorem dX1_markInWood_15 : decode cX1_markInWood 15 = .ok (.aload_n 0, 1) := by decide +kernel
theorem dX1_markInWood_16 : decode cX1_markInWood 16 = .ok (.invokevirtual 59, 3) := by decide +kernel
theorem dX1_markInWood_19 : decode cX1_markInWood 19 = .ok (.imul, 1) := by decide +kernel
theorem dX1_markInWood_20 : decode cX1_markInWood 20 = .ok (.ireturn, 1) := by decide +kernel
theorem dX1_markInWood_21 : decode cX1_markInWood 21 = .ok (.aload_n 0, 1) := by decide +kernel
theorem dX1_markInWood_22 : decode cX1_markInWood 22 = .ok (.getfield 27, 3) := by decide +kernel
theorem dX1_markInWood_25 : decode cX1_markInWood 25 = .ok (.iconst 3, 1) := by decide +kernel
theorem dX1_markInWood_26 : decode cX1_markInWood 26 = .ok (.if_icmp .ne 18, 3) := by decide +kernel
theorem dX1_markInWood_29 : decode cX1_markInWood 29 = .ok (.aload_n 0, 1) := by decide +kernel
theorem dX1_markInWood_30 : decode cX1_markInWood 30 = .ok (.bipush 22, 2) := by decide +kernel
theorem dX1_markInWood_32 : decode cX1_markInWood 32 = .ok (.invokevirtual 43, 3) := by decide +kernel
theorem dX1_markInWood_35 : decode cX1_markInWood 35 = .ok (.aload_n 0, 1) := by decide +kernel
theorem dX1_markInWood_36 : decode cX1_markInWood 36 = .ok (.invokevirtual 59, 3) := by decide +kernel
theorem dX1_markInWood_39 : decode cX1_markInWood 39 = .ok (.sipush 1000, 3) := by decide +kernel
theorem dX1_markInWood_42 : decode cX1_markInWood 42 = .ok (.isub, 1) := by decide +kernel
theorem dX1_markInWood_43 : decode cX1_markInWood 43 = .ok (.ireturn, 1) := by decide +kernel
theorem dX1_markInWood_44 : decode cX1_markInWood 44 = .ok (.aload_n 0, 1) := by decide +kernel
theorem dX1_markInWood_45 : decode cX1_markInWood 45 = .ok (.invokevirtual 59, 3) := by decide +kernel
theorem dX1_markInWood_48 : decode cX1_markInWood 48 = .ok (.ireturn, 1) := by decide +kernel
theorem dX1_lentSize_0 : decode cX1_lentSize 0 = .ok (.aload_n 0, 1) := by decide +kernel
theorem dX1_lentSize_1 : decode cX1_lentSize 1 = .ok (.bipush 10, 2) := by decide +kernel
theorem dX1_lentSize_3 : decode cX1_lentSize 3 = .ok (.invokevirtual 43, 3) := by decide +kernel
theorem dX1_lentSize_6 : decode cX1_lentSize 6 = .ok (.aload_n 0, 1) := by decide +kernel
theorem dX1_lentSize_7 : decode cX1_lentSize 7 = .ok (.getfield 32, 3) := by decide +kernel
theorem dX1_lentSize_10 : decode cX1_lentSize 10 = .ok (.ireturn, 1) := by decide +kernel
theorem dX1_woodSize_0 : decode cX1_woodSize 0 = .ok (.aload_n 0, 1) := by decide +kernel
theorem dX1_woodSize_1 : decode cX1_woodSize 1 = .ok (.bipush 11, 2) := by decide +kernel
theorem dX1_woodSize_3 : decode cX1_woodSize 3 = .ok (.invokevirtual 43, 3) := by decide +kernel
theorem dX1_woodSize_6 : decode cX1_woodSize 6 = .ok (.aload_n 0, 1) := by decide +kernel
theorem dX1_woodSize_7 : decode cX1_woodSize 7 = .ok (.invokevirtual 62, 3) := by decide +kernel
theorem dX1_woodSize_10 : decode cX1_woodSize 10 = .ok (.istore_n 1, 1) := by decide +kernel
theorem dX1_woodSize_11 : decode cX1_woodSize 11 = .ok (.iload_n 1, 1) := by decide +kernel
theorem dX1_woodSize_12 : decode cX1_woodSize 12 = .ok (.aload_n 0, 1) := by decide +kernel
theorem dX1_woodSize_13 : decode cX1_woodSize 13 = .ok (.invokevirtual 53, 3) := by decide +kernel
theorem dX1_woodSize_16 : decode cX1_woodSize 16 = .ok (.iadd, 1) := by decide +kernel
theorem dX1_woodSize_17 : decode cX1_woodSize 17 = .ok (.ireturn, 1) := by decide +kernel
theorem dX1_parishSize_0 : decode cX1_parishSize 0 = .ok (.aload_n 0, 1) := by decide +kernel
theorem dX1_parishSize_1 : decode cX1_parishSize 1 = .ok (.bipush 13, 2) := by decide +kernel
theorem dX1_parishSize_3 : decode cX1_parishSize 3 = .ok (.invokevirtual 43, 3) := by decide +kernel
theorem dX1_parishSize_6 : decode cX1_parishSize 6 = .ok (.aload_n 0, 1) := by decide +kernel
theorem dX1_parishSize_7 : decode cX1_parishSize 7 = .ok (.invokevirtual 62, 3) := by decide +kernel
theorem dX1_parishSize_10 : decode cX1_parishSize 10 = .ok (.bipush 100, 2) := by decide +kernel
theorem dX1_parishSize_12 : decode cX1_parishSize 12 = .ok (.isub, 1) := by decide +kernel
theorem dX1_parishSize_13 : decode cX1_parishSize 13 = .ok (.ireturn, 1) := by decide +kernel
theorem dX1_lentMark_0 : decode cX1_lentMark 0 = .ok (.aload_n 0, 1) := by decide +kernel
theorem dX1_lentMark_1 : decode cX1_lentMark 1 = .ok (.bipush 20, 2) := by decide +kernel
theorem dX1_lentMark_3 : decode cX1_lentMark 3 = .ok (.invokevirtual 43, 3) := by decide +kernel
theorem dX1_lentMark_6 : decode cX1_lentMark 6 = .ok (.aload_n 0, 1) := by decide +kernel
theorem dX1_lentMark_7 : decode cX1_lentMark 7 = .ok (.getfield 19, 3) := by decide +kernel
theorem dX1_lentMark_10 : decode cX1_lentMark 10 = .ok (.ireturn, 1) := by decide +kernel
theorem dX1_woodMark_0 : decode cX1_woodMark 0 = .ok (.aload_n 0, 1) := by decide +kernel
theorem dX1_woodMark_1 : decode cX1_woodMark 1 = .ok (.bipush 21, 2) := by decide +kernel
theorem dX1_woodMark_3 : decode cX1_woodMark 3 = .ok (.invokevirtual 43, 3) := by decide +kernel
theorem dX1_woodMark_6 : decode cX1_woodMark 6 = .ok (.aload_n 0, 1) := by decide +kernel
theorem dX1_woodMark_7 : decode cX1_woodMark 7 = .ok (.invokevirtual 65, 3) := by decide +kernel
theorem dX1_woodMark_10 : decode cX1_woodMark 10 = .ok (.aload_n 0, 1) := by decide +kernel
theorem dX1_woodMark_11 : decode cX1_woodMark 11 = .ok (.getfield 37, 3) := by decide +kernel
theorem dX1_woodMark_14 : decode cX1_woodMark 14 = .ok (.iadd, 1) := by decide +kernel
theorem dX1_woodMark_15 : decode cX1_woodMark 15 = .ok (.ireturn, 1) := by decide +kernel
theorem dX1_parishMark_0 : decode cX1_parishMark 0 = .ok (.aload_n 0, 1) := by decide +kernel
theorem dX1_parishMark_1 : decode cX1_parishMark 1 = .ok (.bipush 23, 2) := by decide +kernel
theorem dX1_parishMark_3 : decode cX1_parishMark 3 = .ok (.invokevirtual 43, 3) := by decide +kernel
theorem dX1_parishMark_6 : decode cX1_parishMark 6 = .ok (.aload_n 0, 1) := by decide +kernel
theorem dX1_parishMark_7 : decode cX1_parishMark 7 = .ok (.invokevirtual 65, 3) := by decide +kernel
theorem dX1_parishMark_10 : decode cX1_parishMark 10 = .ok (.istore_n 1, 1) := by decide +kernel
theorem dX1_parishMark_11 : decode cX1_parishMark 11 = .ok (.iload_n 1, 1) := by decide +kernel
theorem dX1_parishMark_12 : decode cX1_parishMark 12 = .ok (.aload_n 0, 1) := by decide +kernel
theorem dX1_parishMark_13 : decode cX1_parishMark 13 = .ok (.invokevirtual 39, 3) := by decide +kernel
theorem dX1_parishMark_16 : decode cX1_parishMark 16 = .ok (.isub, 1) := by decide +kernel
theorem dX1_parishMark_17 : decode cX1_parishMark 17 = .ok (.ireturn, 1) := by decide +kernel
theorem dX2_init_0 : decode cX2_init 0 = .ok (.aload_n 0, 1) := by decide +kernel
theorem dX2_init_1 : decode cX2_init 1 = .ok (.invokespecial 3, 3) := by decide +kernel
theorem dX2_init_4 : decode cX2_init 4 = .ok (.aload_n 0, 1) := by decide +kernel
theorem dX2_init_5 : decode cX2_init 5 = .ok (.new 9, 3) := by decide +kernel
theorem dX2_init_8 : decode cX2_init 8 = .ok (.dup, 1) := by decide +kernel
theorem dX2_init_9 : decode cX2_init 9 = .ok (.invokespecial 11, 3) := by decide +kernel
theorem dX2_init_12 : decode cX2_init 12 = .ok (.putfield 12, 3) := by decide +kernel
theorem dX2_init_15 : decode cX2_init 15 = .ok (.aload_n 0, 1) := by decide +kernel
theorem dX2_init_16 : decode cX2_init 16 = .ok (.new 9, 3) := by decide +kernel
theorem dX2_init_19 : decode cX2_init 19 = .ok (.dup, 1) := by decide +kernel
theorem dX2_init_20 : decode cX2_init 20 = .ok (.invokespecial 11, 3) := by decide +kernel
theorem dX2_init_23 : decode cX2_init 23 = .ok (.putfield 18, 3) := by decide +kernel
theorem dX2_init_26 : decode cX2_init 26 = .ok (.aload_n 0, 1) := by decide +kernel
theorem dX2_init_27 : decode cX2_init 27 = .ok (.bipush 12, 2) := by decide +kernel
theorem dX2_init_29 : decode cX2_init 29 = .ok (.newarray .int, 2) := by decide +kernel
theorem dX2_init_31 : decode cX2_init 31 = .ok (.putfield 21, 3) := by decide +kernel
theorem dX2_init_34 : decode cX2_init 34 = .ok (.return_, 1) := by decide +kernel
theorem dX2_after_0 : decode cX2_after 0 = .ok (.aload_n 0, 1) := by decide +kernel
theorem dX2_after_1 : decode cX2_after 1 = .ok (.getfield 12, 3) := by decide +kernel
theorem dX2_after_4 : decode cX2_after 4 = .ok (.aload_n 1, 1) := by decide +kernel
theorem dX2_after_5 : decode cX2_after 5 = .ok (.invokevirtual 25, 3) := by decide +kernel
theorem dX2_after_8 : decode cX2_after 8 = .ok (.aload_n 0, 1) := by decide +kernel
theorem dX2_after_9 : decode cX2_after 9 = .ok (.getfield 12, 3) := by decide +kernel
theorem dX2_after_12 : decode cX2_after 12 = .ok (.iload_n 2, 1) := by decide +kernel
theorem dX2_after_13 : decode cX2_after 13 = .ok (.invokevirtual 29, 3) := by decide +kernel
theorem dX2_after_16 : decode cX2_after 16 = .ok (.aload_n 0, 1) := by decide +kernel
theorem dX2_after_17 : decode cX2_after 17 = .ok (.getfield 12, 3) := by decide +kernel
theorem dX2_after_20 : decode cX2_after 20 = .ok (.areturn, 1) := by decide +kernel
theorem dX2_hoursUntil_0 : decode cX2_hoursUntil 0 = .ok (.aload_n 0, 1) := by decide +kernel
theorem dX2_hoursUntil_1 : decode cX2_hoursUntil 1 = .ok (.getfield 12, 3) := by decide +kernel
theorem dX2_hoursUntil_4 : decode cX2_hoursUntil 4 = .ok (.aload_n 1, 1) := by decide +kernel
theorem dX2_hoursUntil_5 : decode cX2_hoursUntil 5 = .ok (.invokevirtual 25, 3) := by decide +kernel
theorem dX2_hoursUntil_8 : decode cX2_hoursUntil 8 = .ok (.iconst 0, 1) := by decide +kernel
theorem dX2_hoursUntil_9 : decode cX2_hoursUntil 9 = .ok (.istore 4, 2) := by decide +kernel
theorem dX2_hoursUntil_11 : decode cX2_hoursUntil 11 = .ok (.iload 4, 2) := by decide +kernel
theorem dX2_hoursUntil_13 : decode cX2_hoursUntil 13 = .ok (.bipush 60, 2) := by decide +kernel
theorem dX2_hoursUntil_15 : decode cX2_hoursUntil 15 = .ok (.if_icmp .gt 49, 3) := by decide +kernel
theorem dX2_hoursUntil_18 : decode cX2_hoursUntil 18 = .ok (.iload_n 3, 1) := by decide +kernel
theorem dX2_hoursUntil_19 : decode cX2_hoursUntil 19 = .ok (.ifCond .ne 18, 3) := by decide +kernel
theorem dX2_hoursUntil_22 : decode cX2_hoursUntil 22 = .ok (.aload_n 0, 1) := by decide +kernel
theorem dX2_hoursUntil_23 : decode cX2_hoursUntil 23 = .ok (.getfield 12, 3) := by decide +kernel
theorem dX2_hoursUntil_26 : decode cX2_hoursUntil 26 = .ok (.getfield 33, 3) := by decide +kernel
theorem dX2_hoursUntil_29 : decode cX2_hoursUntil 29 = .ok (.iload_n 2, 1) := by decide +kernel
theorem dX2_hoursUntil_30 : decode cX2_hoursUntil 30 = .ok (.iaload, 1) := by decide +kernel
theorem dX2_hoursUntil_31 : decode cX2_hoursUntil 31 = .ok (.ifCond .ne 20, 3) := by decide +kernel
theorem dX2_hoursUntil_34 : decode cX2_hoursUntil 34 = .ok (.goto 14, 3) := by decide +kernel
theorem dX2_hoursUntil_37 : decode cX2_hoursUntil 37 = .ok (.aload_n 0, 1) := by decide +kernel
theorem dX2_hoursUntil_38 : decode cX2_hoursUntil 38 = .ok (.getfield 12, 3) := by decide +kernel
theorem dX2_hoursUntil_41 : decode cX2_hoursUntil 41 = .ok (.iload_n 2, 1) := by decide +kernel
theorem dX2_hoursUntil_42 : decode cX2_hoursUntil 42 = .ok (.invokevirtual 36, 3) := by decide +kernel
theorem dX2_hoursUntil_45 : decode cX2_hoursUntil 45 = .ok (.ifCond .eq 6, 3) := by decide +kernel
theorem dX2_hoursUntil_48 : decode cX2_hoursUntil 48 = .ok (.iload 4, 2) := by decide +kernel
theorem dX2_hoursUntil_50 : decode cX2_hoursUntil 50 = .ok (.ireturn, 1) := by decide +kernel
theorem dX2_hoursUntil_51 : decode cX2_hoursUntil 51 = .ok (.aload_n 0, 1) := by decide +kernel
theorem dX2_hoursUntil_52 : decode cX2_hoursUntil 52 = .ok (.getfield 12, 3) := by decide +kernel
theorem dX2_hoursUntil_55 : decode cX2_hoursUntil 55 = .ok (.invokevirtual 40, 3) := by decide +kernel
theorem dX2_hoursUntil_58 : decode cX2_hoursUntil 58 = .ok (.iinc 4 1, 3) := by decide +kernel
theorem dX2_hoursUntil_61 : decode cX2_hoursUntil 61 = .ok (.goto (-50), 3) := by decide +kernel
theorem dX2_hoursUntil_64 : decode cX2_hoursUntil 64 = .ok (.ldc 43, 2) := by decide +kernel
theorem dX2_hoursUntil_66 : decode cX2_hoursUntil 66 = .ok (.ireturn, 1) := by decide +kernel
theorem dX2_firstToFall_0 : decode cX2_firstToFall 0 = .ok (.aload_n 0, 1) := by decide +kernel
theorem dX2_firstToFall_1 : decode cX2_firstToFall 1 = .ok (.getfield 12, 3) := by decide +kernel
theorem dX2_firstToFall_4 : decode cX2_firstToFall 4 = .ok (.aload_n 1, 1) := by decide +kernel
theorem dX2_firstToFall_5 : decode cX2_firstToFall 5 = .ok (.invokevirtual 25, 3) := by decide +kernel
theorem dX2_firstToFall_8 : decode cX2_firstToFall 8 = .ok (.iconst 1, 1) := by decide +kernel
theorem dX2_firstToFall_9 : decode cX2_firstToFall 9 = .ok (.istore_n 3, 1) := by decide +kernel
theorem dX2_firstToFall_10 : decode cX2_firstToFall 10 = .ok (.iload_n 3, 1) := by decide +kernel
theorem dX2_firstToFall_11 : decode cX2_firstToFall 11 = .ok (.bipush 60, 2) := by decide +kernel
theorem dX2_firstToFall_13 : decode cX2_firstToFall 13 = .ok (.if_icmp .gt 68, 3) := by decide +kernel
theorem dX2_firstToFall_16 : decode cX2_firstToFall 16 = .ok (.aload_n 0, 1) := by decide +kernel
theorem dX2_firstToFall_17 : decode cX2_firstToFall 17 = .ok (.getfield 12, 3) := by decide +kernel
theorem dX2_firstToFall_20 : decode cX2_firstToFall 20 = .ok (.invokevirtual 40, 3) := by decide +kernel
theorem dX2_firstToFall_23 : decode cX2_firstToFall 23 = .ok (.iconst 0, 1) := by decide +kernel
theorem dX2_firstToFall_24 : decode cX2_firstToFall 24 = .ok (.istore 4, 2) := by decide +kernel
theorem dX2_firstToFall_26 : decode cX2_firstToFall 26 = .ok (.iload 4, 2) := by decide +kernel
theorem dX2_firstToFall_28 : decode cX2_firstToFall 28 = .ok (.aload_n 1, 1) := by decide +kernel
theorem dX2_firstToFall_29 : decode cX2_firstToFall 29 = .ok (.getfield 44, 3) := by decide +kernel
theorem dX2_firstToFall_32 : decode cX2_firstToFall 32 = .ok (.if_icmp .ge 43, 3) := by decide +kernel
theorem dX2_firstToFall_35 : decode cX2_firstToFall 35 = .ok (.aload_n 1, 1) := by decide +kernel
theorem dX2_firstToFall_36 : decode cX2_firstToFall 36 = .ok (.getfield 33, 3) := by decide +kernel
theorem dX2_firstToFall_39 : decode cX2_firstToFall 39 = .ok (.iload 4, 2) := by decide +kernel
theorem dX2_firstToFall_41 : decode cX2_firstToFall 41 = .ok (.iaload, 1) := by decide +kernel
theorem dX2_firstToFall_42 : decode cX2_firstToFall 42 = .ok (.ifCond .le 27, 3) := by decide +kernel
theorem dX2_firstToFall_45 : decode cX2_firstToFall 45 = .ok (.aload_n 0, 1) := by decide +kernel
theorem dX2_firstToFall_46 : decode cX2_firstToFall 46 = .ok (.getfield 12, 3) := by decide +kernel
theorem dX2_firstToFall_49 : decode cX2_firstToFall 49 = .ok (.getfield 33, 3) := by decide +kernel
theorem dX2_firstToFall_52 : decode cX2_firstToFall 52 = .ok (.iload 4, 2) := by decide +kernel
theorem dX2_firstToFall_54 : decode cX2_firstToFall 54 = .ok (.iaload, 1) := by decide +kernel
theorem dX2_firstToFall_55 : decode cX2_firstToFall 55 = .ok (.ifCond .ne 14, 3) := by decide +kernel
theorem dX2_firstToFall_58 : decode cX2_firstToFall 58 = .ok (.iload_n 2, 1) := by decide +kernel
theorem dX2_firstToFall_59 : decode cX2_firstToFall 59 = .ok (.ifCond .ne 8, 3) := by decide +kernel
theorem dX2_firstToFall_62 : decode cX2_firstToFall 62 = .ok (.iload 4, 2) := by decide +kernel
theorem dX2_firstToFall_64 : decode cX2_firstToFall 64 = .ok (.goto 4, 3) := by decide +kernel
theorem dX2_firstToFall_67 : decode cX2_firstToFall 67 = .ok (.iload_n 3, 1) := by decide +kernel
theorem dX2_firstToFall_68 : decode cX2_firstToFall 68 = .ok (.ireturn, 1) := by decide +kernel
theorem dX2_firstToFall_69 : decode cX2_firstToFall 69 = .ok (.iinc 4 1, 3) := by decide +kernel
theorem dX2_firstToFall_72 : decode cX2_firstToFall 72 = .ok (.goto (-46), 3) := by decide +kernel
theorem dX2_firstToFall_75 : decode cX2_firstToFall 75 = .ok (.iinc 3 1, 3) := by decide +kernel
theorem dX2_firstToFall_78 : decode cX2_firstToFall 78 = .ok (.goto (-68), 3) := by decide +kernel
theorem dX2_firstToFall_81 : decode cX2_firstToFall 81 = .ok (.ldc 43, 2) := by decide +kernel
theorem dX2_firstToFall_83 : decode cX2_firstToFall 83 = .ok (.ireturn, 1) := by decide +kernel
theorem dX2_standingAfter_0 : decode cX2_standingAfter 0 = .ok (.aload_n 0, 1) := by decide +kernel
theorem dX2_standingAfter_1 : decode cX2_standingAfter 1 = .ok (.getfield 12, 3) := by decide +kernel
theorem dX2_standingAfter_4 : decode cX2_standingAfter 4 = .ok (.iload_n 1, 1) := by decide +kernel
theorem dX2_standingAfter_5 : decode cX2_standingAfter 5 = .ok (.invokevirtual 29, 3) := by decide +kernel
theorem dX2_standingAfter_8 : decode cX2_standingAfter 8 = .ok (.aload_n 0, 1) := by decide +kernel
theorem dX2_standingAfter_9 : decode cX2_standingAfter 9 = .ok (.getfield 12, 3) := by decide +kernel
theorem dX2_standingAfter_12 : decode cX2_standingAfter 12 = .ok (.invokevirtual 48, 3) := by decide +kernel
theorem dX2_standingAfter_15 : decode cX2_standingAfter 15 = .ok (.invokestatic 52, 3) := by decide +kernel
theorem dX2_standingAfter_18 : decode cX2_standingAfter 18 = .ok (.ireturn, 1) := by decide +kernel
theorem dX2_bestWalls_0 : decode cX2_bestWalls 0 = .ok (.iconst 0, 1) := by decide +kernel
theorem dX2_bestWalls_1 : decode cX2_bestWalls 1 = .ok (.istore 4, 2) := by decide +kernel
theorem dX2_bestWalls_3 : decode cX2_bestWalls 3 = .ok (.iconst (-1), 1) := by decide +kernel
theorem dX2_bestWalls_4 : decode cX2_bestWalls 4 = .ok (.istore 5, 2) := by decide +kernel
theorem dX2_bestWalls_6 : decode cX2_bestWalls 6 = .ok (.iconst 0, 1) := by decide +kernel
theorem dX2_bestWalls_7 : decode cX2_bestWalls 7 = .ok (.istore 6, 2) := by decide +kernel
theorem dX2_bestWalls_9 : decode cX2_bestWalls 9 = .ok (.iload 6, 2) := by decide +kernel
theorem dX2_bestWalls_11 : decode cX2_bestWalls 11 = .ok (.iconst 1, 1) := by decide +kernel
theorem dX2_bestWalls_12 : decode cX2_bestWalls 12 = .ok (.aload_n 1, 1) := by decide +kernel
theorem dX2_bestWalls_13 : decode cX2_bestWalls 13 = .ok (.getfield 44, 3) := by decide +kernel
theorem dX2_bestWalls_16 : decode cX2_bestWalls 16 = .ok (.iconst 1, 1) := by decide +kernel
theorem dX2_bestWalls_17 : decode cX2_bestWalls 17 = .ok (.isub, 1) := by decide +kernel
theorem dX2_bestWalls_18 : decode cX2_bestWalls 18 = .ok (.ishl, 1) := by decide +kernel
theorem dX2_bestWalls_19 : decode cX2_bestWalls 19 = .ok (.if_icmp .ge 80, 3) := by decide +kernel
theorem dX2_bestWalls_22 : decode cX2_bestWalls 22 = .ok (.aload_n 0, 1) := by decide +kernel
theorem dX2_bestWalls_23 : decode cX2_bestWalls 23 = .ok (.getfield 12, 3) := by decide +kernel
theorem dX2_bestWalls_26 : decode cX2_bestWalls 26 = .ok (.aload_n 1, 1) := by decide +kernel
theorem dX2_bestWalls_27 : decode cX2_bestWalls 27 = .ok (.invokevirtual 25, 3) := by decide +kernel
theorem dX2_bestWalls_30 : decode cX2_bestWalls 30 = .ok (.aload_n 0, 1) := by decide +kernel
theorem dX2_bestWalls_31 : decode cX2_bestWalls 31 = .ok (.getfield 12, 3) := by decide +kernel
theorem dX2_bestWalls_34 : decode cX2_bestWalls 34 = .ok (.iload 6, 2) := by decide +kernel
theorem dX2_bestWalls_36 : decode cX2_bestWalls 36 = .ok (.putfield 58, 3) := by decide +kernel
theorem dX2_bestWalls_39 : decode cX2_bestWalls 39 = .ok (.aload_n 0, 1) := by decide +kernel
theorem dX2_bestWalls_40 : decode cX2_bestWalls 40 = .ok (.iload_n 2, 1) := by decide +kernel
theorem dX2_bestWalls_41 : decode cX2_bestWalls 41 = .ok (.invokevirtual 61, 3) := by decide +kernel
theorem dX2_bestWalls_44 : decode cX2_bestWalls 44 = .ok (.istore 7, 2) := by decide +kernel
theorem dX2_bestWalls_46 : decode cX2_bestWalls 46 = .ok (.iload 6, 2) := by decide +kernel
theorem dX2_bestWalls_48 : decode cX2_bestWalls 48 = .ok (.invokestatic 52, 3) := by decide +kernel
theorem dX2_bestWalls_51 : decode cX2_bestWalls 51 = .ok (.iload 4, 2) := by decide +kernel
theorem dX2_bestWalls_53 : decode cX2_bestWalls 53 = .ok (.invokestatic 52, 3) := by decide +kernel
theorem dX2_bestWalls_56 : decode cX2_bestWalls 56 = .ok (.if_icmp .ge 7, 3) := by decide +kernel
theorem dX2_bestWalls_59 : decode cX2_bestWalls 59 = .ok (.iconst 1, 1) := by decide +kernel
theorem dX2_bestWalls_60 : decode cX2_bestWalls 60 = .ok (.goto 4, 3) := by decide +kernel
theorem dX2_bestWalls_63 : decode cX2_bestWalls 63 = .ok (.iconst 0, 1) := by decide +kernel
theorem dX2_bestWalls_64 : decode cX2_bestWalls 64 = .ok (.istore 8, 2) := by decide +kernel
theorem dX2_bestWalls_66 : decode cX2_bestWalls 66 = .ok (.iload 7, 2) := by decide +kernel
theorem dX2_bestWalls_68 : decode cX2_bestWalls 68 = .ok (.iload 5, 2) := by decide +kernel
theorem dX2_bestWalls_70 : decode cX2_bestWalls 70 = .ok (.if_icmp .gt 15, 3) := by decide +kernel
theorem dX2_bestWalls_73 : decode cX2_bestWalls 73 = .ok (.iload 7, 2) := by decide +kernel
theorem dX2_bestWalls_75 : decode cX2_bestWalls 75 = .ok (.iload 5, 2) := by decide +kernel
theorem dX2_bestWalls_77 : decode cX2_bestWalls 77 = .ok (.if_icmp .ne 16, 3) := by decide +kernel
theorem dX2_bestWalls_80 : decode cX2_bestWalls 80 = .ok (.iload 8, 2) := by decide +kernel
theorem dX2_bestWalls_82 : decode cX2_bestWalls 82 = .ok (.ifCond .eq 11, 3) := by decide +kernel
theorem dX2_bestWalls_85 : decode cX2_bestWalls 85 = .ok (.iload 6, 2) := by decide +kernel
theorem dX2_bestWalls_87 : decode cX2_bestWalls 87 = .ok (.istore 4, 2) := by decide +kernel
theorem dX2_bestWalls_89 : decode cX2_bestWalls 89 = .ok (.iload 7, 2) := by decide +kernel
theorem dX2_bestWalls_91 : decode cX2_bestWalls 91 = .ok (.istore 5, 2) := by decide +kernel
theorem dX2_bestWalls_93 : decode cX2_bestWalls 93 = .ok (.iinc 6 1, 3) := by decide +kernel
theorem dX2_bestWalls_96 : decode cX2_bestWalls 96 = .ok (.goto (-87), 3) := by decide +kernel
theorem dX2_bestWalls_99 : decode cX2_bestWalls 99 = .ok (.iload_n 3, 1) := by decide +kernel
theorem dX2_bestWalls_100 : decode cX2_bestWalls 100 = .ok (.ifCond .ne 8, 3) := by decide +kernel
theorem dX2_bestWalls_103 : decode cX2_bestWalls 103 = .ok (.iload 4, 2) := by decide +kernel
theorem dX2_bestWalls_105 : decode cX2_bestWalls 105 = .ok (.goto 5, 3) := by decide +kernel
theorem dX2_bestWalls_108 : decode cX2_bestWalls 108 = .ok (.iload 5, 2) := by decide +kernel
theorem dX2_bestWalls_110 : decode cX2_bestWalls 110 = .ok (.ireturn, 1) := by decide +kernel
theorem dX2_bestSteadied_0 : decode cX2_bestSteadied 0 = .ok (.ldc 43, 2) := by decide +kernel
theorem dX2_bestSteadied_2 : decode cX2_bestSteadied 2 = .ok (.istore 4, 2) := by decide +kernel
theorem dX2_bestSteadied_4 : decode cX2_bestSteadied 4 = .ok (.ldc 43, 2) := by decide +kernel
theorem dX2_bestSteadied_6 : decode cX2_bestSteadied 6 = .ok (.istore 5, 2) := by decide +kernel
theorem dX2_bestSteadied_8 : decode cX2_bestSteadied 8 = .ok (.iconst 0, 1) := by decide +kernel
theorem dX2_bestSteadied_9 : decode cX2_bestSteadied 9 = .ok (.istore 6, 2) := by decide +kernel
theorem dX2_bestSteadied_11 : decode cX2_bestSteadied 11 = .ok (.iload 6, 2) := by decide +kernel
theorem dX2_bestSteadied_13 : decode cX2_bestSteadied 13 = .ok (.aload_n 1, 1) := by decide +kernel
theorem dX2_bestSteadied_14 : decode cX2_bestSteadied 14 = .ok (.getfield 44, 3) := by decide +kernel
theorem dX2_bestSteadied_17 : decode cX2_bestSteadied 17 = .ok (.if_icmp .ge 61, 3) := by decide +kernel
theorem dX2_bestSteadied_20 : decode cX2_bestSteadied 20 = .ok (.aload_n 1, 1) := by decide +kernel
theorem dX2_bestSteadied_21 : decode cX2_bestSteadied 21 = .ok (.getfield 33, 3) := by decide +kernel
theorem dX2_bestSteadied_24 : decode cX2_bestSteadied 24 = .ok (.iload 6, 2) := by decide +kernel
theorem dX2_bestSteadied_26 : decode cX2_bestSteadied 26 = .ok (.iaload, 1) := by decide +kernel
theorem dX2_bestSteadied_27 : decode cX2_bestSteadied 27 = .ok (.ifCond .le 45, 3) := by decide +kernel
theorem dX2_bestSteadied_30 : decode cX2_bestSteadied 30 = .ok (.aload_n 0, 1) := by decide +kernel
theorem dX2_bestSteadied_31 : decode cX2_bestSteadied 31 = .ok (.getfield 12, 3) := by decide +kernel
theorem dX2_bestSteadied_34 : decode cX2_bestSteadied 34 = .ok (.aload_n 1, 1) := by decide +kernel
theorem dX2_bestSteadied_35 : decode cX2_bestSteadied 35 = .ok (.invokevirtual 25, 3) := by decide +kernel
theorem dX2_bestSteadied_38 : decode cX2_bestSteadied 38 = .ok (.aload_n 0, 1) := by decide +kernel
theorem dX2_bestSteadied_39 : decode cX2_bestSteadied 39 = .ok (.getfield 12, 3) := by decide +kernel
theorem dX2_bestSteadied_42 : decode cX2_bestSteadied 42 = .ok (.getfield 33, 3) := by decide +kernel
theorem dX2_bestSteadied_45 : decode cX2_bestSteadied 45 = .ok (.iload 6, 2) := by decide +kernel
theorem dX2_bestSteadied_47 : decode cX2_bestSteadied 47 = .ok (.bipush 99, 2) := by decide +kernel
theorem dX2_bestSteadied_49 : decode cX2_bestSteadied 49 = .ok (.iastore, 1) := by decide +kernel
theorem dX2_bestSteadied_50 : decode cX2_bestSteadied 50 = .ok (.aload_n 0, 1) := by decide +kernel
theorem dX2_bestSteadied_51 : decode cX2_bestSteadied 51 = .ok (.iload_n 2, 1) := by decide +kernel
theorem dX2_bestSteadied_52 : decode cX2_bestSteadied 52 = .ok (.invokevirtual 61, 3) := by decide +kernel
theorem dX2_bestSteadied_55 : decode cX2_bestSteadied 55 = .ok (.istore 7, 2) := by decide +kernel
theorem dX2_bestSteadied_57 : decode cX2_bestSteadied 57 = .ok (.iload 7, 2) := by decide +kernel
theorem dX2_bestSteadied_59 : decode cX2_bestSteadied 59 = .ok (.iload 5, 2) := by decide +kernel
theorem dX2_bestSteadied_61 : decode cX2_bestSteadied 61 = .ok (.if_icmp .le 11, 3) := by decide +kernel
theorem dX2_bestSteadied_64 : decode cX2_bestSteadied 64 = .ok (.iload 6, 2) := by decide +kernel
theorem dX2_bestSteadied_66 : decode cX2_bestSteadied 66 = .ok (.istore 4, 2) := by decide +kernel
theorem dX2_bestSteadied_68 : decode cX2_bestSteadied 68 = .ok (.iload 7, 2) := by decide +kernel
theorem dX2_bestSteadied_70 : decode cX2_bestSteadied 70 = .ok (.istore 5, 2) := by decide +kernel
theorem dX2_bestSteadied_72 : decode cX2_bestSteadied 72 = .ok (.iinc 6 1, 3) := by decide +kernel
theorem dX2_bestSteadied_75 : decode cX2_bestSteadied 75 = .ok (.goto (-64), 3) := by decide +kernel
theorem dX2_bestSteadied_78 : decode cX2_bestSteadied 78 = .ok (.iload_n 3, 1) := by decide +kernel
theorem dX2_bestSteadied_79 : decode cX2_bestSteadied 79 = .ok (.ifCond .ne 8, 3) := by decide +kernel
theorem dX2_bestSteadied_82 : decode cX2_bestSteadied 82 = .ok (.iload 4, 2) := by decide +kernel
theorem dX2_bestSteadied_84 : decode cX2_bestSteadied 84 = .ok (.goto 5, 3) := by decide +kernel
theorem dX2_bestSteadied_87 : decode cX2_bestSteadied 87 = .ok (.iload 5, 2) := by decide +kernel
theorem dX2_bestSteadied_89 : decode cX2_bestSteadied 89 = .ok (.ireturn, 1) := by decide +kernel
theorem dX2_play_0 : decode cX2_play 0 = .ok (.iload_n 1, 1) := by decide +kernel
theorem dX2_play_1 : decode cX2_play 1 = .ok (.iload_n 2, 1) := by decide +kernel
theorem dX2_play_2 : decode cX2_play 2 = .ok (.if_icmp .ge 8, 3) := by decide +kernel
theorem dX2_play_5 : decode cX2_play 5 = .ok (.iload_n 1, 1) := by decide +kernel
theorem dX2_play_6 : decode cX2_play 6 = .ok (.iconst 4, 1) := by decide +kernel
theorem dX2_play_7 : decode cX2_play 7 = .ok (.if_icmp .lt 9, 3) := by decide +kernel
theorem dX2_play_10 : decode cX2_play 10 = .ok (.aload_n 0, 1) := by decide +kernel
theorem dX2_play_11 : decode cX2_play 11 = .ok (.iload_n 3, 1) := by decide +kernel
theorem dX2_play_12 : decode cX2_play 12 = .ok (.invokevirtual 64, 3) := by decide +kernel
theorem dX2_play_15 : decode cX2_play 15 = .ok (.ireturn, 1) := by decide +kernel
theorem dX2_play_16 : decode cX2_play 16 = .ok (.aload_n 0, 1) := by decide +kernel
theorem dX2_play_17 : decode cX2_play 17 = .ok (.getfield 18, 3) := by decide +kernel
theorem dX2_play_20 : decode cX2_play 20 = .ok (.getfield 33, 3) := by decide +kernel
theorem dX2_play_23 : decode cX2_play 23 = .ok (.astore 4, 2) := by decide +kernel
theorem dX2_play_25 : decode cX2_play 25 = .ok (.aload_n 0, 1) := by decide +kernel
theorem dX2_play_26 : decode cX2_play 26 = .ok (.iload_n 1, 1) := by decide +kernel
theorem dX2_play_27 : decode cX2_play 27 = .ok (.iconst 1, 1) := by decide +kernel
theorem dX2_play_28 : decode cX2_play 28 = .ok (.iadd, 1) := by decide +kernel
theorem dX2_play_29 : decode cX2_play 29 = .ok (.iload_n 2, 1) := by decide +kernel
theorem dX2_play_30 : decode cX2_play 30 = .ok (.iload_n 3, 1) := by decide +kernel
theorem dX2_play_31 : decode cX2_play 31 = .ok (.invokestatic 67, 3) := by decide +kernel
theorem dX2_play_34 : decode cX2_play 34 = .ok (.istore 5, 2) := by decide +kernel
theorem dX2_play_36 : decode cX2_play 36 = .ok (.iload_n 1, 1) := by decide +kernel
theorem dX2_play_37 : decode cX2_play 37 = .ok (.iconst 2, 1) := by decide +kernel
theorem dX2_play_38 : decode cX2_play 38 = .ok (.irem, 1) := by decide +kernel
theorem dX2_play_39 : decode cX2_play 39 = .ok (.istore 6, 2) := by decide +kernel
theorem dX2_play_41 : decode cX2_play 41 = .ok (.iload 6, 2) := by decide +kernel
theorem dX2_play_43 : decode cX2_play 43 = .ok (.aload_n 0, 1) := by decide +kernel
theorem dX2_play_44 : decode cX2_play 44 = .ok (.getfield 18, 3) := by decide +kernel
theorem dX2_play_47 : decode cX2_play 47 = .ok (.getfield 44, 3) := by decide +kernel
theorem dX2_play_50 : decode cX2_play 50 = .ok (.if_icmp .ge 80, 3) := by decide +kernel
theorem dX2_play_53 : decode cX2_play 53 = .ok (.aload 4, 2) := by decide +kernel
theorem dX2_play_55 : decode cX2_play 55 = .ok (.iload 6, 2) := by decide +kernel
theorem dX2_play_57 : decode cX2_play 57 = .ok (.iaload, 1) := by decide +kernel
theorem dX2_play_58 : decode cX2_play 58 = .ok (.istore 7, 2) := by decide +kernel
theorem dX2_play_60 : decode cX2_play 60 = .ok (.iload 7, 2) := by decide +kernel
theorem dX2_play_62 : decode cX2_play 62 = .ok (.ifCond .le 62, 3) := by decide +kernel
theorem dX2_play_65 : decode cX2_play 65 = .ok (.aload_n 0, 1) := by decide +kernel
theorem dX2_play_66 : decode cX2_play 66 = .ok (.getfield 18, 3) := by decide +kernel
theorem dX2_play_69 : decode cX2_play 69 = .ok (.iload 6, 2) := by decide +kernel
theorem dX2_play_71 : decode cX2_play 71 = .ok (.aload_n 0, 1) := by decide +kernel
theorem dX2_play_72 : decode cX2_play 72 = .ok (.getfield 18, 3) := by decide +kernel
theorem dX2_play_75 : decode cX2_play 75 = .ok (.getfield 71, 3) := by decide +kernel
theorem dX2_play_78 : decode cX2_play 78 = .ok (.invokevirtual 74, 3) := by decide +kernel
theorem dX2_play_81 : decode cX2_play 81 = .ok (.aload_n 0, 1) := by decide +kernel
theorem dX2_play_82 : decode cX2_play 82 = .ok (.iload_n 1, 1) := by decide +kernel
theorem dX2_play_83 : decode cX2_play 83 = .ok (.iconst 1, 1) := by decide +kernel
theorem dX2_play_84 : decode cX2_play 84 = .ok (.iadd, 1) := by decide +kernel
theorem dX2_play_85 : decode cX2_play 85 = .ok (.iload_n 2, 1) := by decide +kernel
theorem dX2_play_86 : decode cX2_play 86 = .ok (.iload_n 3, 1) := by decide +kernel
theorem dX2_play_87 : decode cX2_play 87 = .ok (.invokestatic 67, 3) := by decide +kernel
theorem dX2_play_90 : decode cX2_play 90 = .ok (.istore 8, 2) := by decide +kernel
theorem dX2_play_92 : decode cX2_play 92 = .ok (.iload_n 1, 1) := by decide +kernel
theorem dX2_play_93 : decode cX2_play 93 = .ok (.iconst 2, 1) := by decide +kernel
theorem dX2_play_94 : decode cX2_play 94 = .ok (.irem, 1) := by decide +kernel
theorem dX2_play_95 : decode cX2_play 95 = .ok (.ifCond .ne 13, 3) := by decide +kernel
theorem dX2_play_98 : decode cX2_play 98 = .ok (.iload 5, 2) := by decide +kernel
theorem dX2_play_100 : decode cX2_play 100 = .ok (.iload 8, 2) := by decide +kernel
theorem dX2_play_102 : decode cX2_play 102 = .ok (.invokestatic 78, 3) := by decide +kernel
theorem dX2_play_105 : decode cX2_play 105 = .ok (.goto 10, 3) := by decide +kernel
theorem dX2_play_108 : decode cX2_play 108 = .ok (.iload 5, 2) := by decide +kernel
theorem dX2_play_110 : decode cX2_play 110 = .ok (.iload 8, 2) := by decide +kernel
theorem dX2_play_112 : decode cX2_play 112 = .ok (.invokestatic 84, 3) := by decide +kernel
theorem dX2_play_115 : decode cX2_play 115 = .ok (.istore 5, 2) := by decide +kernel
theorem dX2_play_117 : decode cX2_play 117 = .ok (.aload 4, 2) := by decide +kernel
theorem dX2_play_119 : decode cX2_play 119 = .ok (.iload 6, 2) := by decide +kernel
theorem dX2_play_121 : decode cX2_play 121 = .ok (.iload 7, 2) := by decide +kernel
theorem dX2_play_123 : decode cX2_play 123 = .ok (.iastore, 1) := by decide +kernel
theorem dX2_play_124 : decode cX2_play 124 = .ok (.iinc 6 2, 3) := by decide +kernel
theorem dX2_play_127 : decode cX2_play 127 = .ok (.goto (-86), 3) := by decide +kernel
theorem dX2_play_130 : decode cX2_play 130 = .ok (.iload 5, 2) := by decide +kernel
theorem dX2_play_132 : decode cX2_play 132 = .ok (.ireturn, 1) := by decide +kernel
theorem dX2_evensLead_0 : decode cX2_evensLead 0 = .ok (.aload_n 0, 1) := by decide +kernel
theorem dX2_evensLead_1 : decode cX2_evensLead 1 = .ok (.getfield 12, 3) := by decide +kernel
theorem dX2_evensLead_4 : decode cX2_evensLead 4 = .ok (.aload_n 0, 1) := by decide +kernel
theorem dX2_evensLead_5 : decode cX2_evensLead 5 = .ok (.getfield 18, 3) := by decide +kernel
theorem dX2_evensLead_8 : decode cX2_evensLead 8 = .ok (.invokevirtual 25, 3) := by decide +kernel
theorem dX2_evensLead_11 : decode cX2_evensLead 11 = .ok (.aload_n 0, 1) := by decide +kernel
theorem dX2_evensLead_12 : decode cX2_evensLead 12 = .ok (.getfield 12, 3) := by decide +kernel
theorem dX2_evensLead_15 : decode cX2_evensLead 15 = .ok (.iload_n 1, 1) := by decide +kernel
theorem dX2_evensLead_16 : decode cX2_evensLead 16 = .ok (.invokevirtual 29, 3) := by decide +kernel
theorem dX2_evensLead_19 : decode cX2_evensLead 19 = .ok (.iconst 0, 1) := by decide +kernel
theorem dX2_evensLead_20 : decode cX2_evensLead 20 = .ok (.istore_n 2, 1) := by decide +kernel
theorem dX2_evensLead_21 : decode cX2_evensLead 21 = .ok (.iconst 0, 1) := by decide +kernel
theorem dX2_evensLead_22 : decode cX2_evensLead 22 = .ok (.istore_n 3, 1) := by decide +kernel
theorem dX2_evensLead_23 : decode cX2_evensLead 23 = .ok (.iload_n 3, 1) := by decide +kernel
theorem dX2_evensLead_24 : decode cX2_evensLead 24 = .ok (.aload_n 0, 1) := by decide +kernel
theorem dX2_evensLead_25 : decode cX2_evensLead 25 = .ok (.getfield 12, 3) := by decide +kernel
theorem dX2_evensLead_28 : decode cX2_evensLead 28 = .ok (.getfield 44, 3) := by decide +kernel
theorem dX2_evensLead_31 : decode cX2_evensLead 31 = .ok (.if_icmp .ge 40, 3) := by decide +kernel
theorem dX2_evensLead_34 : decode cX2_evensLead 34 = .ok (.iload_n 2, 1) := by decide +kernel
theorem dX2_evensLead_35 : decode cX2_evensLead 35 = .ok (.iload_n 3, 1) := by decide +kernel
theorem dX2_evensLead_36 : decode cX2_evensLead 36 = .ok (.iconst 2, 1) := by decide +kernel
theorem dX2_evensLead_37 : decode cX2_evensLead 37 = .ok (.irem, 1) := by decide +kernel
theorem dX2_evensLead_38 : decode cX2_evensLead 38 = .ok (.ifCond .ne 15, 3) := by decide +kernel
theorem dX2_evensLead_41 : decode cX2_evensLead 41 = .ok (.aload_n 0, 1) := by decide +kernel
theorem dX2_evensLead_42 : decode cX2_evensLead 42 = .ok (.getfield 12, 3) := by decide +kernel
theorem dX2_evensLead_45 : decode cX2_evensLead 45 = .ok (.getfield 33, 3) := by decide +kernel
theorem dX2_evensLead_48 : decode cX2_evensLead 48 = .ok (.iload_n 3, 1) := by decide +kernel
theorem dX2_evensLead_49 : decode cX2_evensLead 49 = .ok (.iaload, 1) := by decide +kernel
theorem dX2_evensLead_50 : decode cX2_evensLead 50 = .ok (.goto 13, 3) := by decide +kernel
theorem dX2_evensLead_53 : decode cX2_evensLead 53 = .ok (.aload_n 0, 1) := by decide +kernel
theorem dX2_evensLead_54 : decode cX2_evensLead 54 = .ok (.getfield 12, 3) := by decide +kernel
theorem dX2_evensLead_57 : decode cX2_evensLead 57 = .ok (.getfield 33, 3) := by decide +kernel
theorem dX2_evensLead_60 : decode cX2_evensLead 60 = .ok (.iload_n 3, 1) := by decide +kernel
theorem dX2_evensLead_61 : decode cX2_evensLead 61 = .ok (.iaload, 1) := by decide +kernel
theorem dX2_evensLead_62 : decode cX2_evensLead 62 = .ok (.ineg, 1) := by decide +kernel
theorem dX2_evensLead_63 : decode cX2_evensLead 63 = .ok (.iadd, 1) := by decide +kernel
theorem dX2_evensLead_64 : decode cX2_evensLead 64 = .ok (.istore_n 2, 1) := by decide +kernel
theorem dX2_evensLead_65 : decode cX2_evensLead 65 = .ok (.iinc 3 1, 3) := by decide +kernel
theorem dX2_evensLead_68 : decode cX2_evensLead 68 = .ok (.goto (-45), 3) := by decide +kernel
theorem dX2_evensLead_71 : decode cX2_evensLead 71 = .ok (.iload_n 2, 1) := by decide +kernel
theorem dX2_evensLead_72 : decode cX2_evensLead 72 = .ok (.ireturn, 1) := by decide +kernel
theorem dX2_listen_0 : decode cX2_listen 0 = .ok (.aload_n 0, 1) := by decide +kernel
theorem dX2_listen_1 : decode cX2_listen 1 = .ok (.iload_n 3, 1) := by decide +kernel
theorem dX2_listen_2 : decode cX2_listen 2 = .ok (.putfield 87, 3) := by decide +kernel
theorem dX2_listen_5 : decode cX2_listen 5 = .ok (.aload_n 1, 1) := by decide +kernel
theorem dX2_listen_6 : decode cX2_listen 6 = .ok (.iload_n 2, 1) := by decide +kernel
theorem dX2_listen_7 : decode cX2_listen 7 = .ok (.aload_n 0, 1) := by decide +kernel
theorem dX2_listen_8 : decode cX2_listen 8 = .ok (.getfield 21, 3) := by decide +kernel
theorem dX2_listen_11 : decode cX2_listen 11 = .ok (.iconst 0, 1) := by decide +kernel
theorem dX2_listen_12 : decode cX2_listen 12 = .ok (.iload_n 3, 1) := by decide +kernel
theorem dX2_listen_13 : decode cX2_listen 13 = .ok (.invokestatic 90, 3) := by decide +kernel
theorem dX2_listen_16 : decode cX2_listen 16 = .ok (.return_, 1) := by decide +kernel
theorem dX2_isHeard_0 : decode cX2_isHeard 0 = .ok (.iconst 0, 1) := by decide +kernel
theorem dX2_isHeard_1 : decode cX2_isHeard 1 = .ok (.istore_n 2, 1) := by decide +kernel
theorem dX2_isHeard_2 : decode cX2_isHeard 2 = .ok (.iload_n 2, 1) := by decide +kernel
theorem dX2_isHeard_3 : decode cX2_isHeard 3 = .ok (.aload_n 0, 1) := by decide +kernel
theorem dX2_isHeard_4 : decode cX2_isHeard 4 = .ok (.getfield 87, 3) := by decide +kernel
theorem dX2_isHeard_7 : decode cX2_isHeard 7 = .ok (.if_icmp .ge 36, 3) := by decide +kernel
theorem dX2_isHeard_10 : decode cX2_isHeard 10 = .ok (.aload_n 0, 1) := by decide +kernel
theorem dX2_isHeard_11 : decode cX2_isHeard 11 = .ok (.getfield 12, 3) := by decide +kernel
theorem dX2_isHeard_14 : decode cX2_isHeard 14 = .ok (.invokevirtual 40, 3) := by decide +kernel
theorem dX2_isHeard_17 : decode cX2_isHeard 17 = .ok (.aload_n 0, 1) := by decide +kernel
theorem dX2_isHeard_18 : decode cX2_isHeard 18 = .ok (.getfield 12, 3) := by decide +kernel
theorem dX2_isHeard_21 : decode cX2_isHeard 21 = .ok (.getfield 33, 3) := by decide +kernel
theorem dX2_isHeard_24 : decode cX2_isHeard 24 = .ok (.iload_n 1, 1) := by decide +kernel
theorem dX2_isHeard_25 : decode cX2_isHeard 25 = .ok (.iaload, 1) := by decide +kernel
theorem dX2_isHeard_26 : decode cX2_isHeard 26 = .ok (.aload_n 0, 1) := by decide +kernel
theorem dX2_isHeard_27 : decode cX2_isHeard 27 = .ok (.getfield 21, 3) := by decide +kernel
theorem dX2_isHeard_30 : decode cX2_isHeard 30 = .ok (.iload_n 2, 1) := by decide +kernel
theorem dX2_isHeard_31 : decode cX2_isHeard 31 = .ok (.iaload, 1) := by decide +kernel
theorem dX2_isHeard_32 : decode cX2_isHeard 32 = .ok (.if_icmp .eq 5, 3) := by decide +kernel
theorem dX2_isHeard_35 : decode cX2_isHeard 35 = .ok (.iconst 0, 1) := by decide +kernel
theorem dX2_isHeard_36 : decode cX2_isHeard 36 = .ok (.ireturn, 1) := by decide +kernel
theorem dX2_isHeard_37 : decode cX2_isHeard 37 = .ok (.iinc 2 1, 3) := by decide +kernel
theorem dX2_isHeard_40 : decode cX2_isHeard 40 = .ok (.goto (-38), 3) := by decide +kernel
theorem dX2_isHeard_43 : decode cX2_isHeard 43 = .ok (.iconst 1, 1) := by decide +kernel
theorem dX2_isHeard_44 : decode cX2_isHeard 44 = .ok (.ireturn, 1) := by decide +kernel
theorem dX2_kindsHeard_0 : decode cX2_kindsHeard 0 = .ok (.iconst 0, 1) := by decide +kernel
theorem dX2_kindsHeard_1 : decode cX2_kindsHeard 1 = .ok (.istore_n 3, 1) := by decide +kernel
theorem dX2_kindsHeard_2 : decode cX2_kindsHeard 2 = .ok (.iconst 1, 1) := by decide +kernel
theorem dX2_kindsHeard_3 : decode cX2_kindsHeard 3 = .ok (.istore 4, 2) := by decide +kernel
theorem dX2_kindsHeard_5 : decode cX2_kindsHeard 5 = .ok (.iload 4, 2) := by decide +kernel
theorem dX2_kindsHeard_7 : decode cX2_kindsHeard 7 = .ok (.iconst 5, 1) := by decide +kernel
theorem dX2_kindsHeard_8 : decode cX2_kindsHeard 8 = .ok (.if_icmp .gt 47, 3) := by decide +kernel
theorem dX2_kindsHeard_11 : decode cX2_kindsHeard 11 = .ok (.aload_n 0, 1) := by decide +kernel
theorem dX2_kindsHeard_12 : decode cX2_kindsHeard 12 = .ok (.getfield 12, 3) := by decide +kernel
theorem dX2_kindsHeard_15 : decode cX2_kindsHeard 15 = .ok (.aload_n 1, 1) := by decide +kernel
theorem dX2_kindsHeard_16 : decode cX2_kindsHeard 16 = .ok (.invokevirtual 25, 3) := by decide +kernel
theorem dX2_kindsHeard_19 : decode cX2_kindsHeard 19 = .ok (.aload_n 0, 1) := by decide +kernel
theorem dX2_kindsHeard_20 : decode cX2_kindsHeard 20 = .ok (.getfield 12, 3) := by decide +kernel
theorem dX2_kindsHeard_23 : decode cX2_kindsHeard 23 = .ok (.getfield 96, 3) := by decide +kernel
theorem dX2_kindsHeard_26 : decode cX2_kindsHeard 26 = .ok (.iload_n 2, 1) := by decide +kernel
theorem dX2_kindsHeard_27 : decode cX2_kindsHeard 27 = .ok (.iload 4, 2) := by decide +kernel
theorem dX2_kindsHeard_29 : decode cX2_kindsHeard 29 = .ok (.iastore, 1) := by decide +kernel
theorem dX2_kindsHeard_30 : decode cX2_kindsHeard 30 = .ok (.iload_n 3, 1) := by decide +kernel
theorem dX2_kindsHeard_31 : decode cX2_kindsHeard 31 = .ok (.aload_n 0, 1) := by decide +kernel
theorem dX2_kindsHeard_32 : decode cX2_kindsHeard 32 = .ok (.iload_n 2, 1) := by decide +kernel
theorem dX2_kindsHeard_33 : decode cX2_kindsHeard 33 = .ok (.invokevirtual 99, 3) := by decide +kernel
theorem dX2_kindsHeard_36 : decode cX2_kindsHeard 36 = .ok (.ifCond .eq 10, 3) := by decide +kernel
theorem dX2_kindsHeard_39 : decode cX2_kindsHeard 39 = .ok (.iconst 1, 1) := by decide +kernel
theorem dX2_kindsHeard_40 : decode cX2_kindsHeard 40 = .ok (.iload 4, 2) := by decide +kernel
theorem dX2_kindsHeard_42 : decode cX2_kindsHeard 42 = .ok (.ishl, 1) := by decide +kernel
theorem dX2_kindsHeard_43 : decode cX2_kindsHeard 43 = .ok (.goto 4, 3) := by decide +kernel
theorem dX2_kindsHeard_46 : decode cX2_kindsHeard 46 = .ok (.iconst 0, 1) := by decide +kernel
theorem dX2_kindsHeard_47 : decode cX2_kindsHeard 47 = .ok (.ior, 1) := by decide +kernel
theorem dX2_kindsHeard_48 : decode cX2_kindsHeard 48 = .ok (.istore_n 3, 1) := by decide +kernel
theorem dX2_kindsHeard_49 : decode cX2_kindsHeard 49 = .ok (.iinc 4 1, 3) := by decide +kernel
theorem dX2_kindsHeard_52 : decode cX2_kindsHeard 52 = .ok (.goto (-47), 3) := by decide +kernel
theorem dX2_kindsHeard_55 : decode cX2_kindsHeard 55 = .ok (.iload_n 3, 1) := by decide +kernel
theorem dX2_kindsHeard_56 : decode cX2_kindsHeard 56 = .ok (.ireturn, 1) := by decide +kernel
theorem dX2_rubsHeard_0 : decode cX2_rubsHeard 0 = .ok (.iconst 0, 1) := by decide +kernel
theorem dX2_rubsHeard_1 : decode cX2_rubsHeard 1 = .ok (.istore_n 3, 1) := by decide +kernel
theorem dX2_rubsHeard_2 : decode cX2_rubsHeard 2 = .ok (.iconst 1, 1) := by decide +kernel
theorem dX2_rubsHeard_3 : decode cX2_rubsHeard 3 = .ok (.istore 4, 2) := by decide +kernel
theorem dX2_rubsHeard_5 : decode cX2_rubsHeard 5 = .ok (.iload 4, 2) := by decide +kernel
theorem dX2_rubsHeard_7 : decode cX2_rubsHeard 7 = .ok (.bipush 9, 2) := by decide +kernel
theorem dX2_rubsHeard_9 : decode cX2_rubsHeard 9 = .ok (.if_icmp .gt 47, 3) := by decide +kernel
theorem dX2_rubsHeard_12 : decode cX2_rubsHeard 12 = .ok (.aload_n 0, 1) := by decide +kernel
theorem dX2_rubsHeard_13 : decode cX2_rubsHeard 13 = .ok (.getfield 12, 3) := by decide +kernel
theorem dX2_rubsHeard_16 : decode cX2_rubsHeard 16 = .ok (.aload_n 1, 1) := by decide +kernel
theorem dX2_rubsHeard_17 : decode cX2_rubsHeard 17 = .ok (.invokevirtual 25, 3) := by decide +kernel
theorem dX2_rubsHeard_20 : decode cX2_rubsHeard 20 = .ok (.aload_n 0, 1) := by decide +kernel
theorem dX2_rubsHeard_21 : decode cX2_rubsHeard 21 = .ok (.getfield 12, 3) := by decide +kernel
theorem dX2_rubsHeard_24 : decode cX2_rubsHeard 24 = .ok (.getfield 102, 3) := by decide +kernel
theorem dX2_rubsHeard_27 : decode cX2_rubsHeard 27 = .ok (.iload_n 2, 1) := by decide +kernel
theorem dX2_rubsHeard_28 : decode cX2_rubsHeard 28 = .ok (.iload 4, 2) := by decide +kernel
theorem dX2_rubsHeard_30 : decode cX2_rubsHeard 30 = .ok (.iastore, 1) := by decide +kernel
theorem dX2_rubsHeard_31 : decode cX2_rubsHeard 31 = .ok (.iload_n 3, 1) := by decide +kernel
theorem dX2_rubsHeard_32 : decode cX2_rubsHeard 32 = .ok (.aload_n 0, 1) := by decide +kernel
theorem dX2_rubsHeard_33 : decode cX2_rubsHeard 33 = .ok (.iload_n 2, 1) := by decide +kernel
theorem dX2_rubsHeard_34 : decode cX2_rubsHeard 34 = .ok (.invokevirtual 99, 3) := by decide +kernel
theorem dX2_rubsHeard_37 : decode cX2_rubsHeard 37 = .ok (.ifCond .eq 10, 3) := by decide +kernel
theorem dX2_rubsHeard_40 : decode cX2_rubsHeard 40 = .ok (.iconst 1, 1) := by decide +kernel
theorem dX2_rubsHeard_41 : decode cX2_rubsHeard 41 = .ok (.iload 4, 2) := by decide +kernel
theorem dX2_rubsHeard_43 : decode cX2_rubsHeard 43 = .ok (.ishl, 1) := by decide +kernel
theorem dX2_rubsHeard_44 : decode cX2_rubsHeard 44 = .ok (.goto 4, 3) := by decide +kernel
theorem dX2_rubsHeard_47 : decode cX2_rubsHeard 47 = .ok (.iconst 0, 1) := by decide +kernel
theorem dX2_rubsHeard_48 : decode cX2_rubsHeard 48 = .ok (.ior, 1) := by decide +kernel
theorem dX2_rubsHeard_49 : decode cX2_rubsHeard 49 = .ok (.istore_n 3, 1) := by decide +kernel
theorem dX2_rubsHeard_50 : decode cX2_rubsHeard 50 = .ok (.iinc 4 1, 3) := by decide +kernel
theorem dX2_rubsHeard_53 : decode cX2_rubsHeard 53 = .ok (.goto (-48), 3) := by decide +kernel
theorem dX2_rubsHeard_56 : decode cX2_rubsHeard 56 = .ok (.iload_n 3, 1) := by decide +kernel
theorem dX2_rubsHeard_57 : decode cX2_rubsHeard 57 = .ok (.ireturn, 1) := by decide +kernel
theorem dX2_spinsHeard_0 : decode cX2_spinsHeard 0 = .ok (.iconst 0, 1) := by decide +kernel
theorem dX2_spinsHeard_1 : decode cX2_spinsHeard 1 = .ok (.istore 4, 2) := by decide +kernel
theorem dX2_spinsHeard_3 : decode cX2_spinsHeard 3 = .ok (.ldc 43, 2) := by decide +kernel
theorem dX2_spinsHeard_5 : decode cX2_spinsHeard 5 = .ok (.istore 5, 2) := by decide +kernel
theorem dX2_spinsHeard_7 : decode cX2_spinsHeard 7 = .ok (.ldc 43, 2) := by decide +kernel
theorem dX2_spinsHeard_9 : decode cX2_spinsHeard 9 = .ok (.istore 6, 2) := by decide +kernel
theorem dX2_spinsHeard_11 : decode cX2_spinsHeard 11 = .ok (.iconst 0, 1) := by decide +kernel
theorem dX2_spinsHeard_12 : decode cX2_spinsHeard 12 = .ok (.istore 7, 2) := by decide +kernel
theorem dX2_spinsHeard_14 : decode cX2_spinsHeard 14 = .ok (.iload 7, 2) := by decide +kernel
theorem dX2_spinsHeard_16 : decode cX2_spinsHeard 16 = .ok (.bipush 100, 2) := by decide +kernel
theorem dX2_spinsHeard_18 : decode cX2_spinsHeard 18 = .ok (.if_icmp .ge 57, 3) := by decide +kernel
theorem dX2_spinsHeard_21 : decode cX2_spinsHeard 21 = .ok (.aload_n 0, 1) := by decide +kernel
theorem dX2_spinsHeard_22 : decode cX2_spinsHeard 22 = .ok (.getfield 12, 3) := by decide +kernel
theorem dX2_spinsHeard_25 : decode cX2_spinsHeard 25 = .ok (.aload_n 1, 1) := by decide +kernel
theorem dX2_spinsHeard_26 : decode cX2_spinsHeard 26 = .ok (.invokevirtual 25, 3) := by decide +kernel
theorem dX2_spinsHeard_29 : decode cX2_spinsHeard 29 = .ok (.aload_n 0, 1) := by decide +kernel
theorem dX2_spinsHeard_30 : decode cX2_spinsHeard 30 = .ok (.getfield 12, 3) := by decide +kernel
theorem dX2_spinsHeard_33 : decode cX2_spinsHeard 33 = .ok (.getfield 33, 3) := by decide +kernel
theorem dX2_spinsHeard_36 : decode cX2_spinsHeard 36 = .ok (.iload_n 2, 1) := by decide +kernel
theorem dX2_spinsHeard_37 : decode cX2_spinsHeard 37 = .ok (.iload 7, 2) := by decide +kernel
theorem dX2_spinsHeard_39 : decode cX2_spinsHeard 39 = .ok (.iastore, 1) := by decide +kernel
theorem dX2_spinsHeard_40 : decode cX2_spinsHeard 40 = .ok (.aload_n 0, 1) := by decide +kernel
theorem dX2_spinsHeard_41 : decode cX2_spinsHeard 41 = .ok (.iload_n 2, 1) := by decide +kernel
theorem dX2_spinsHeard_42 : decode cX2_spinsHeard 42 = .ok (.invokevirtual 99, 3) := by decide +kernel
theorem dX2_spinsHeard_45 : decode cX2_spinsHeard 45 = .ok (.ifCond .eq 24, 3) := by decide +kernel
theorem dX2_spinsHeard_48 : decode cX2_spinsHeard 48 = .ok (.iload 4, 2) := by decide +kernel
theorem dX2_spinsHeard_50 : decode cX2_spinsHeard 50 = .ok (.ifCond .ne 8, 3) := by decide +kernel
theorem dX2_spinsHeard_53 : decode cX2_spinsHeard 53 = .ok (.iload 7, 2) := by decide +kernel
theorem dX2_spinsHeard_55 : decode cX2_spinsHeard 55 = .ok (.goto 5, 3) := by decide +kernel
theorem dX2_spinsHeard_58 : decode cX2_spinsHeard 58 = .ok (.iload 5, 2) := by decide +kernel
theorem dX2_spinsHeard_60 : decode cX2_spinsHeard 60 = .ok (.istore 5, 2) := by decide +kernel
theorem dX2_spinsHeard_62 : decode cX2_spinsHeard 62 = .ok (.iload 7, 2) := by decide +kernel
theorem dX2_spinsHeard_64 : decode cX2_spinsHeard 64 = .ok (.istore 6, 2) := by decide +kernel
theorem dX2_spinsHeard_66 : decode cX2_spinsHeard 66 = .ok (.iinc 4 1, 3) := by decide +kernel
theorem dX2_spinsHeard_69 : decode cX2_spinsHeard 69 = .ok (.iinc 7 1, 3) := by decide +kernel
theorem dX2_spinsHeard_72 : decode cX2_spinsHeard 72 = .ok (.goto (-58), 3) := by decide +kernel
theorem dX2_spinsHeard_75 : decode cX2_spinsHeard 75 = .ok (.iload_n 3, 1) := by decide +kernel
theorem dX2_spinsHeard_76 : decode cX2_spinsHeard 76 = .ok (.iconst 2, 1) := by decide +kernel
theorem dX2_spinsHeard_77 : decode cX2_spinsHeard 77 = .ok (.if_icmp .ne 6, 3) := by decide +kernel
theorem dX2_spinsHeard_80 : decode cX2_spinsHeard 80 = .ok (.iload 4, 2) := by decide +kernel
theorem dX2_spinsHeard_82 : decode cX2_spinsHeard 82 = .ok (.ireturn, 1) := by decide +kernel
theorem dX2_spinsHeard_83 : decode cX2_spinsHeard 83 = .ok (.iload_n 3, 1) := by decide +kernel
theorem dX2_spinsHeard_84 : decode cX2_spinsHeard 84 = .ok (.iconst 3, 1) := by decide +kernel
theorem dX2_spinsHeard_85 : decode cX2_spinsHeard 85 = .ok (.if_icmp .ne 8, 3) := by decide +kernel
theorem dX2_spinsHeard_88 : decode cX2_spinsHeard 88 = .ok (.iload 5, 2) := by decide +kernel
theorem dX2_spinsHeard_90 : decode cX2_spinsHeard 90 = .ok (.goto 5, 3) := by decide +kernel
theorem dX2_spinsHeard_93 : decode cX2_spinsHeard 93 = .ok (.iload 6, 2) := by decide +kernel
theorem dX2_spinsHeard_95 : decode cX2_spinsHeard 95 = .ok (.ireturn, 1) := by decide +kernel
theorem dX2_fingersHeard_0 : decode cX2_fingersHeard 0 = .ok (.aload_n 0, 1) := by decide +kernel
theorem dX2_fingersHeard_1 : decode cX2_fingersHeard 1 = .ok (.getfield 12, 3) := by decide +kernel
theorem dX2_fingersHeard_4 : decode cX2_fingersHeard 4 = .ok (.aload_n 1, 1) := by decide +kernel
theorem dX2_fingersHeard_5 : decode cX2_fingersHeard 5 = .ok (.invokevirtual 25, 3) := by decide +kernel
theorem dX2_fingersHeard_8 : decode cX2_fingersHeard 8 = .ok (.aload_n 0, 1) := by decide +kernel
theorem dX2_fingersHeard_9 : decode cX2_fingersHeard 9 = .ok (.iload_n 2, 1) := by decide +kernel
theorem dX2_fingersHeard_10 : decode cX2_fingersHeard 10 = .ok (.invokevirtual 99, 3) := by decide +kernel
theorem dX2_fingersHeard_13 : decode cX2_fingersHeard 13 = .ok (.ifCond .eq 9, 3) := by decide +kernel
theorem dX2_fingersHeard_16 : decode cX2_fingersHeard 16 = .ok (.sipush 256, 3) := by decide +kernel
theorem dX2_fingersHeard_19 : decode cX2_fingersHeard 19 = .ok (.goto 4, 3) := by decide +kernel
theorem dX2_fingersHeard_22 : decode cX2_fingersHeard 22 = .ok (.iconst 0, 1) := by decide +kernel
theorem dX2_fingersHeard_23 : decode cX2_fingersHeard 23 = .ok (.istore_n 3, 1) := by decide +kernel
theorem dX2_fingersHeard_24 : decode cX2_fingersHeard 24 = .ok (.iconst 0, 1) := by decide +kernel
theorem dX2_fingersHeard_25 : decode cX2_fingersHeard 25 = .ok (.istore 4, 2) := by decide +kernel
theorem dX2_fingersHeard_27 : decode cX2_fingersHeard 27 = .ok (.iload 4, 2) := by decide +kernel
theorem dX2_fingersHeard_29 : decode cX2_fingersHeard 29 = .ok (.aload_n 1, 1) := by decide +kernel
theorem dX2_fingersHeard_30 : decode cX2_fingersHeard 30 = .ok (.getfield 44, 3) := by decide +kernel
theorem dX2_fingersHeard_33 : decode cX2_fingersHeard 33 = .ok (.if_icmp .ge 60, 3) := by decide +kernel
theorem dX2_fingersHeard_36 : decode cX2_fingersHeard 36 = .ok (.aload_n 1, 1) := by decide +kernel
theorem dX2_fingersHeard_37 : decode cX2_fingersHeard 37 = .ok (.getfield 33, 3) := by decide +kernel
theorem dX2_fingersHeard_40 : decode cX2_fingersHeard 40 = .ok (.iload 4, 2) := by decide +kernel
theorem dX2_fingersHeard_42 : decode cX2_fingersHeard 42 = .ok (.iaload, 1) := by decide +kernel
theorem dX2_fingersHeard_43 : decode cX2_fingersHeard 43 = .ok (.ifCond .le 44, 3) := by decide +kernel
theorem dX2_fingersHeard_46 : decode cX2_fingersHeard 46 = .ok (.aload_n 0, 1) := by decide +kernel
theorem dX2_fingersHeard_47 : decode cX2_fingersHeard 47 = .ok (.getfield 12, 3) := by decide +kernel
theorem dX2_fingersHeard_50 : decode cX2_fingersHeard 50 = .ok (.aload_n 1, 1) := by decide +kernel
theorem dX2_fingersHeard_51 : decode cX2_fingersHeard 51 = .ok (.invokevirtual 25, 3) := by decide +kernel
theorem dX2_fingersHeard_54 : decode cX2_fingersHeard 54 = .ok (.aload_n 0, 1) := by decide +kernel
theorem dX2_fingersHeard_55 : decode cX2_fingersHeard 55 = .ok (.getfield 12, 3) := by decide +kernel
theorem dX2_fingersHeard_58 : decode cX2_fingersHeard 58 = .ok (.getfield 33, 3) := by decide +kernel
theorem dX2_fingersHeard_61 : decode cX2_fingersHeard 61 = .ok (.iload 4, 2) := by decide +kernel
theorem dX2_fingersHeard_63 : decode cX2_fingersHeard 63 = .ok (.dup2, 1) := by decide +kernel
theorem dX2_fingersHeard_64 : decode cX2_fingersHeard 64 = .ok (.iaload, 1) := by decide +kernel
theorem dX2_fingersHeard_65 : decode cX2_fingersHeard 65 = .ok (.iconst 2, 1) := by decide +kernel
theorem dX2_fingersHeard_66 : decode cX2_fingersHeard 66 = .ok (.idiv, 1) := by decide +kernel
theorem dX2_fingersHeard_67 : decode cX2_fingersHeard 67 = .ok (.iastore, 1) := by decide +kernel
theorem dX2_fingersHeard_68 : decode cX2_fingersHeard 68 = .ok (.iload_n 3, 1) := by decide +kernel
theorem dX2_fingersHeard_69 : decode cX2_fingersHeard 69 = .ok (.aload_n 0, 1) := by decide +kernel
theorem dX2_fingersHeard_70 : decode cX2_fingersHeard 70 = .ok (.iload_n 2, 1) := by decide +kernel
theorem dX2_fingersHeard_71 : decode cX2_fingersHeard 71 = .ok (.invokevirtual 99, 3) := by decide +kernel
theorem dX2_fingersHeard_74 : decode cX2_fingersHeard 74 = .ok (.ifCond .eq 10, 3) := by decide +kernel
theorem dX2_fingersHeard_77 : decode cX2_fingersHeard 77 = .ok (.iconst 1, 1) := by decide +kernel
theorem dX2_fingersHeard_78 : decode cX2_fingersHeard 78 = .ok (.iload 4, 2) := by decide +kernel
theorem dX2_fingersHeard_80 : decode cX2_fingersHeard 80 = .ok (.ishl, 1) := by decide +kernel
theorem dX2_fingersHeard_81 : decode cX2_fingersHeard 81 = .ok (.goto 4, 3) := by decide +kernel
theorem dX2_fingersHeard_84 : decode cX2_fingersHeard 84 = .ok (.iconst 0, 1) := by decide +kernel
theorem dX2_fingersHeard_85 : decode cX2_fingersHeard 85 = .ok (.ior, 1) := by decide +kernel
theorem dX2_fingersHeard_86 : decode cX2_fingersHeard 86 = .ok (.istore_n 3, 1) := by decide +kernel
theorem dX2_fingersHeard_87 : decode cX2_fingersHeard 87 = .ok (.iinc 4 1, 3) := by decide +kernel
theorem dX2_fingersHeard_90 : decode cX2_fingersHeard 90 = .ok (.goto (-63), 3) := by decide +kernel
theorem dX2_fingersHeard_93 : decode cX2_fingersHeard 93 = .ok (.iload_n 3, 1) := by decide +kernel
theorem dX2_fingersHeard_94 : decode cX2_fingersHeard 94 = .ok (.ireturn, 1) := by decide +kernel
theorem dX2_lashesHeard_0 : decode cX2_lashesHeard 0 = .ok (.iconst 0, 1) := by decide +kernel
theorem dX2_lashesHeard_1 : decode cX2_lashesHeard 1 = .ok (.istore 4, 2) := by decide +kernel
theorem dX2_lashesHeard_3 : decode cX2_lashesHeard 3 = .ok (.iconst 1, 1) := by decide +kernel
theorem dX2_lashesHeard_4 : decode cX2_lashesHeard 4 = .ok (.istore 5, 2) := by decide +kernel
theorem dX2_lashesHeard_6 : decode cX2_lashesHeard 6 = .ok (.iload 5, 2) := by decide +kernel
theorem dX2_lashesHeard_8 : decode cX2_lashesHeard 8 = .ok (.bipush 30, 2) := by decide +kernel
theorem dX2_lashesHeard_10 : decode cX2_lashesHeard 10 = .ok (.if_icmp .gt 50, 3) := by decide +kernel
theorem dX2_lashesHeard_13 : decode cX2_lashesHeard 13 = .ok (.aload_n 0, 1) := by decide +kernel
theorem dX2_lashesHeard_14 : decode cX2_lashesHeard 14 = .ok (.getfield 12, 3) := by decide +kernel
theorem dX2_lashesHeard_17 : decode cX2_lashesHeard 17 = .ok (.aload_n 1, 1) := by decide +kernel
theorem dX2_lashesHeard_18 : decode cX2_lashesHeard 18 = .ok (.invokevirtual 25, 3) := by decide +kernel
theorem dX2_lashesHeard_21 : decode cX2_lashesHeard 21 = .ok (.aload_n 0, 1) := by decide +kernel
theorem dX2_lashesHeard_22 : decode cX2_lashesHeard 22 = .ok (.getfield 12, 3) := by decide +kernel
theorem dX2_lashesHeard_25 : decode cX2_lashesHeard 25 = .ok (.iload_n 3, 1) := by decide +kernel
theorem dX2_lashesHeard_26 : decode cX2_lashesHeard 26 = .ok (.iload 5, 2) := by decide +kernel
theorem dX2_lashesHeard_28 : decode cX2_lashesHeard 28 = .ok (.invokevirtual 74, 3) := by decide +kernel
theorem dX2_lashesHeard_31 : decode cX2_lashesHeard 31 = .ok (.iload 4, 2) := by decide +kernel
theorem dX2_lashesHeard_33 : decode cX2_lashesHeard 33 = .ok (.aload_n 0, 1) := by decide +kernel
theorem dX2_lashesHeard_34 : decode cX2_lashesHeard 34 = .ok (.iload_n 2, 1) := by decide +kernel
theorem dX2_lashesHeard_35 : decode cX2_lashesHeard 35 = .ok (.invokevirtual 99, 3) := by decide +kernel
theorem dX2_lashesHeard_38 : decode cX2_lashesHeard 38 = .ok (.ifCond .eq 12, 3) := by decide +kernel
theorem dX2_lashesHeard_41 : decode cX2_lashesHeard 41 = .ok (.iconst 1, 1) := by decide +kernel
theorem dX2_lashesHeard_42 : decode cX2_lashesHeard 42 = .ok (.iload 5, 2) := by decide +kernel
theorem dX2_lashesHeard_44 : decode cX2_lashesHeard 44 = .ok (.iconst 1, 1) := by decide +kernel
theorem dX2_lashesHeard_45 : decode cX2_lashesHeard 45 = .ok (.isub, 1) := by decide +kernel
theorem dX2_lashesHeard_46 : decode cX2_lashesHeard 46 = .ok (.ishl, 1) := by decide +kernel
theorem dX2_lashesHeard_47 : decode cX2_lashesHeard 47 = .ok (.goto 4, 3) := by decide +kernel
theorem dX2_lashesHeard_50 : decode cX2_lashesHeard 50 = .ok (.iconst 0, 1) := by decide +kernel
theorem dX2_lashesHeard_51 : decode cX2_lashesHeard 51 = .ok (.ior, 1) := by decide +kernel
theorem dX2_lashesHeard_52 : decode cX2_lashesHeard 52 = .ok (.istore 4, 2) := by decide +kernel
theorem dX2_lashesHeard_54 : decode cX2_lashesHeard 54 = .ok (.iinc 5 1, 3) := by decide +kernel
theorem dX2_lashesHeard_57 : decode cX2_lashesHeard 57 = .ok (.goto (-51), 3) := by decide +kernel
theorem dX2_lashesHeard_60 : decode cX2_lashesHeard 60 = .ok (.iload 4, 2) := by decide +kernel
theorem dX2_lashesHeard_62 : decode cX2_lashesHeard 62 = .ok (.ireturn, 1) := by decide +kernel
theorem dX2_chance_0 : decode cX2_chance 0 = .ok (.aload_n 1, 1) := by decide +kernel
theorem dX2_chance_1 : decode cX2_chance 1 = .ok (.invokevirtual 48, 3) := by decide +kernel
theorem dX2_chance_4 : decode cX2_chance 4 = .ok (.istore 6, 2) := by decide +kernel
theorem dX2_chance_6 : decode cX2_chance 6 = .ok (.lconst 0, 1) := by decide +kernel
theorem dX2_chance_7 : decode cX2_chance 7 = .ok (.lstore 7, 2) := by decide +kernel
theorem dX2_chance_9 : decode cX2_chance 9 = .ok (.iconst 0, 1) := by decide +kernel
theorem dX2_chance_10 : decode cX2_chance 10 = .ok (.istore 9, 2) := by decide +kernel
theorem dX2_chance_12 : decode cX2_chance 12 = .ok (.iload 9, 2) := by decide +kernel
theorem dX2_chance_14 : decode cX2_chance 14 = .ok (.iconst 1, 1) := by decide +kernel
theorem dX2_chance_15 : decode cX2_chance 15 = .ok (.aload_n 1, 1) := by decide +kernel
theorem dX2_chance_16 : decode cX2_chance 16 = .ok (.getfield 44, 3) := by decide +kernel
theorem dX2_chance_19 : decode cX2_chance 19 = .ok (.ishl, 1) := by decide +kernel
theorem dX2_chance_20 : decode cX2_chance 20 = .ok (.if_icmp .ge 67, 3) := by decide +kernel
theorem dX2_chance_23 : decode cX2_chance 23 = .ok (.iload 9, 2) := by decide +kernel
theorem dX2_chance_25 : decode cX2_chance 25 = .ok (.iload 6, 2) := by decide +kernel
theorem dX2_chance_27 : decode cX2_chance 27 = .ok (.iconst (-1), 1) := by decide +kernel
theorem dX2_chance_28 : decode cX2_chance 28 = .ok (.ixor, 1) := by decide +kernel
theorem dX2_chance_29 : decode cX2_chance 29 = .ok (.iand, 1) := by decide +kernel
theorem dX2_chance_30 : decode cX2_chance 30 = .ok (.ifCond .ne 51, 3) := by decide +kernel
theorem dX2_chance_33 : decode cX2_chance 33 = .ok (.aload_n 0, 1) := by decide +kernel
theorem dX2_chance_34 : decode cX2_chance 34 = .ok (.aload_n 1, 1) := by decide +kernel
theorem dX2_chance_35 : decode cX2_chance 35 = .ok (.iload 9, 2) := by decide +kernel
theorem dX2_chance_37 : decode cX2_chance 37 = .ok (.iload_n 2, 1) := by decide +kernel
theorem dX2_chance_38 : decode cX2_chance 38 = .ok (.iload_n 3, 1) := by decide +kernel
theorem dX2_chance_39 : decode cX2_chance 39 = .ok (.invokevirtual 105, 3) := by decide +kernel
theorem dX2_chance_42 : decode cX2_chance 42 = .ok (.ifCond .eq 39, 3) := by decide +kernel
theorem dX2_chance_45 : decode cX2_chance 45 = .ok (.iload 9, 2) := by decide +kernel
theorem dX2_chance_47 : decode cX2_chance 47 = .ok (.invokestatic 52, 3) := by decide +kernel
theorem dX2_chance_50 : decode cX2_chance 50 = .ok (.istore 10, 2) := by decide +kernel
theorem dX2_chance_52 : decode cX2_chance 52 = .ok (.lload 7, 2) := by decide +kernel
theorem dX2_chance_54 : decode cX2_chance 54 = .ok (.iload 4, 2) := by decide +kernel
theorem dX2_chance_56 : decode cX2_chance 56 = .ok (.iload 10, 2) := by decide +kernel
theorem dX2_chance_58 : decode cX2_chance 58 = .ok (.invokestatic 109, 3) := by decide +kernel
theorem dX2_chance_61 : decode cX2_chance 61 = .ok (.bipush 10, 2) := by decide +kernel
theorem dX2_chance_63 : decode cX2_chance 63 = .ok (.iload 4, 2) := by decide +kernel
theorem dX2_chance_65 : decode cX2_chance 65 = .ok (.isub, 1) := by decide +kernel
theorem dX2_chance_66 : decode cX2_chance 66 = .ok (.iload 6, 2) := by decide +kernel
theorem dX2_chance_68 : decode cX2_chance 68 = .ok (.invokestatic 52, 3) := by decide +kernel
theorem dX2_chance_71 : decode cX2_chance 71 = .ok (.iload 10, 2) := by decide +kernel
theorem dX2_chance_73 : decode cX2_chance 73 = .ok (.isub, 1) := by decide +kernel
theorem dX2_chance_74 : decode cX2_chance 74 = .ok (.invokestatic 109, 3) := by decide +kernel
theorem dX2_chance_77 : decode cX2_chance 77 = .ok (.lmul, 1) := by decide +kernel
theorem dX2_chance_78 : decode cX2_chance 78 = .ok (.ladd, 1) := by decide +kernel
theorem dX2_chance_79 : decode cX2_chance 79 = .ok (.lstore 7, 2) := by decide +kernel
theorem dX2_chance_81 : decode cX2_chance 81 = .ok (.iinc 9 1, 3) := by decide +kernel
theorem dX2_chance_84 : decode cX2_chance 84 = .ok (.goto (-72), 3) := by decide +kernel
theorem dX2_chance_87 : decode cX2_chance 87 = .ok (.bipush 10, 2) := by decide +kernel
theorem dX2_chance_89 : decode cX2_chance 89 = .ok (.iload 6, 2) := by decide +kernel
theorem dX2_chance_91 : decode cX2_chance 91 = .ok (.invokestatic 52, 3) := by decide +kernel
theorem dX2_chance_94 : decode cX2_chance 94 = .ok (.invokestatic 109, 3) := by decide +kernel
theorem dX2_chance_97 : decode cX2_chance 97 = .ok (.lstore 9, 2) := by decide +kernel
theorem dX2_chance_99 : decode cX2_chance 99 = .ok (.lload 9, 2) := by decide +kernel
theorem dX2_chance_101 : decode cX2_chance 101 = .ok (.lload 7, 2) := by decide +kernel
theorem dX2_chance_103 : decode cX2_chance 103 = .ok (.invokestatic 113, 3) := by decide +kernel
theorem dX2_chance_106 : decode cX2_chance 106 = .ok (.lstore 11, 2) := by decide +kernel
theorem dX2_chance_108 : decode cX2_chance 108 = .ok (.iload 5, 2) := by decide +kernel
theorem dX2_chance_110 : decode cX2_chance 110 = .ok (.ifCond .ne 8, 3) := by decide +kernel
theorem dX2_chance_113 : decode cX2_chance 113 = .ok (.lload 7, 2) := by decide +kernel
theorem dX2_chance_115 : decode cX2_chance 115 = .ok (.goto 5, 3) := by decide +kernel
theorem dX2_chance_118 : decode cX2_chance 118 = .ok (.lload 9, 2) := by decide +kernel
theorem dX2_chance_120 : decode cX2_chance 120 = .ok (.lload 11, 2) := by decide +kernel
theorem dX2_chance_122 : decode cX2_chance 122 = .ok (.ldiv, 1) := by decide +kernel
theorem dX2_chance_123 : decode cX2_chance 123 = .ok (.lreturn, 1) := by decide +kernel
theorem dX2_standsCracked_0 : decode cX2_standsCracked 0 = .ok (.aload_n 0, 1) := by decide +kernel
theorem dX2_standsCracked_1 : decode cX2_standsCracked 1 = .ok (.getfield 12, 3) := by decide +kernel
theorem dX2_standsCracked_4 : decode cX2_standsCracked 4 = .ok (.aload_n 1, 1) := by decide +kernel
theorem dX2_standsCracked_5 : decode cX2_standsCracked 5 = .ok (.invokevirtual 25, 3) := by decide +kernel
theorem dX2_standsCracked_8 : decode cX2_standsCracked 8 = .ok (.iconst 0, 1) := by decide +kernel
theorem dX2_standsCracked_9 : decode cX2_standsCracked 9 = .ok (.istore 5, 2) := by decide +kernel
theorem dX2_standsCracked_11 : decode cX2_standsCracked 11 = .ok (.iload 5, 2) := by decide +kernel
theorem dX2_standsCracked_13 : decode cX2_standsCracked 13 = .ok (.aload_n 1, 1) := by decide +kernel
theorem dX2_standsCracked_14 : decode cX2_standsCracked 14 = .ok (.getfield 44, 3) := by decide +kernel
theorem dX2_standsCracked_17 : decode cX2_standsCracked 17 = .ok (.if_icmp .ge 36, 3) := by decide +kernel
theorem dX2_standsCracked_20 : decode cX2_standsCracked 20 = .ok (.aload_n 0, 1) := by decide +kernel
theorem dX2_standsCracked_21 : decode cX2_standsCracked 21 = .ok (.getfield 12, 3) := by decide +kernel
theorem dX2_standsCracked_24 : decode cX2_standsCracked 24 = .ok (.getfield 33, 3) := by decide +kernel
theorem dX2_standsCracked_27 : decode cX2_standsCracked 27 = .ok (.iload 5, 2) := by decide +kernel
theorem dX2_standsCracked_29 : decode cX2_standsCracked 29 = .ok (.dup2, 1) := by decide +kernel
theorem dX2_standsCracked_30 : decode cX2_standsCracked 30 = .ok (.iaload, 1) := by decide +kernel
theorem dX2_standsCracked_31 : decode cX2_standsCracked 31 = .ok (.iload_n 2, 1) := by decide +kernel
theorem dX2_standsCracked_32 : decode cX2_standsCracked 32 = .ok (.iload 5, 2) := by decide +kernel
theorem dX2_standsCracked_34 : decode cX2_standsCracked 34 = .ok (.ishr, 1) := by decide +kernel
theorem dX2_standsCracked_35 : decode cX2_standsCracked 35 = .ok (.iconst 1, 1) := by decide +kernel
theorem dX2_standsCracked_36 : decode cX2_standsCracked 36 = .ok (.iand, 1) := by decide +kernel
theorem dX2_standsCracked_37 : decode cX2_standsCracked 37 = .ok (.ifCond .eq 7, 3) := by decide +kernel
theorem dX2_standsCracked_40 : decode cX2_standsCracked 40 = .ok (.iconst 2, 1) := by decide +kernel
theorem dX2_standsCracked_41 : decode cX2_standsCracked 41 = .ok (.goto 4, 3) := by decide +kernel
theorem dX2_standsCracked_44 : decode cX2_standsCracked 44 = .ok (.iconst 1, 1) := by decide +kernel
theorem dX2_standsCracked_45 : decode cX2_standsCracked 45 = .ok (.idiv, 1) := by decide +kernel
theorem dX2_standsCracked_46 : decode cX2_standsCracked 46 = .ok (.iastore, 1) := by decide +kernel
theorem dX2_standsCracked_47 : decode cX2_standsCracked 47 = .ok (.iinc 5 1, 3) := by decide +kernel
theorem dX2_standsCracked_50 : decode cX2_standsCracked 50 = .ok (.goto (-39), 3) := by decide +kernel
theorem dX2_standsCracked_53 : decode cX2_standsCracked 53 = .ok (.aload_n 0, 1) := by decide +kernel
theorem dX2_standsCracked_54 : decode cX2_standsCracked 54 = .ok (.getfield 12, 3) := by decide +kernel
theorem dX2_standsCracked_57 : decode cX2_standsCracked 57 = .ok (.iload 4, 2) := by decide +kernel
theorem dX2_standsCracked_59 : decode cX2_standsCracked 59 = .ok (.invokevirtual 29, 3) := by decide +kernel
theorem dX2_standsCracked_62 : decode cX2_standsCracked 62 = .ok (.aload_n 0, 1) := by decide +kernel
theorem dX2_standsCracked_63 : decode cX2_standsCracked 63 = .ok (.getfield 12, 3) := by decide +kernel
theorem dX2_standsCracked_66 : decode cX2_standsCracked 66 = .ok (.getfield 33, 3) := by decide +kernel
theorem dX2_standsCracked_69 : decode cX2_standsCracked 69 = .ok (.iload_n 3, 1) := by decide +kernel
theorem dX2_standsCracked_70 : decode cX2_standsCracked 70 = .ok (.iaload, 1) := by decide +kernel
theorem dX2_standsCracked_71 : decode cX2_standsCracked 71 = .ok (.ifCond .le 7, 3) := by decide +kernel
theorem dX2_standsCracked_74 : decode cX2_standsCracked 74 = .ok (.iconst 1, 1) := by decide +kernel
theorem dX2_standsCracked_75 : decode cX2_standsCracked 75 = .ok (.goto 4, 3) := by decide +kernel
theorem dX2_standsCracked_78 : decode cX2_standsCracked 78 = .ok (.iconst 0, 1) := by decide +kernel
theorem dX2_standsCracked_79 : decode cX2_standsCracked 79 = .ok (.ireturn, 1) := by decide +kernel
theorem dX2_power_0 : decode cX2_power 0 = .ok (.lconst 1, 1) := by decide +kernel
theorem dX2_power_1 : decode cX2_power 1 = .ok (.lstore_n 2, 1) := by decide +kernel
theorem dX2_power_2 : decode cX2_power 2 = .ok (.iconst 0, 1) := by decide +kernel
theorem dX2_power_3 : decode cX2_power 3 = .ok (.istore 4, 2) := by decide +kernel
theorem dX2_power_5 : decode cX2_power 5 = .ok (.iload 4, 2) := by decide +kernel
theorem dX2_power_7 : decode cX2_power 7 = .ok (.iload_n 1, 1) := by decide +kernel
theorem dX2_power_8 : decode cX2_power 8 = .ok (.if_icmp .ge 14, 3) := by decide +kernel
theorem dX2_power_11 : decode cX2_power 11 = .ok (.lload_n 2, 1) := by decide +kernel
theorem dX2_power_12 : decode cX2_power 12 = .ok (.iload_n 0, 1) := by decide +kernel
theorem dX2_power_13 : decode cX2_power 13 = .ok (.i2l, 1) := by decide +kernel
theorem dX2_power_14 : decode cX2_power 14 = .ok (.lmul, 1) := by decide +kernel
theorem dX2_power_15 : decode cX2_power 15 = .ok (.lstore_n 2, 1) := by decide +kernel
theorem dX2_power_16 : decode cX2_power 16 = .ok (.iinc 4 1, 3) := by decide +kernel
theorem dX2_power_19 : decode cX2_power 19 = .ok (.goto (-14), 3) := by decide +kernel
theorem dX2_power_22 : decode cX2_power 22 = .ok (.lload_n 2, 1) := by decide +kernel
theorem dX2_power_23 : decode cX2_power 23 = .ok (.lreturn, 1) := by decide +kernel
theorem dX2_commonDivisor_0 : decode cX2_commonDivisor 0 = .ok (.lload_n 0, 1) := by decide +kernel
theorem dX2_commonDivisor_1 : decode cX2_commonDivisor 1 = .ok (.lstore 4, 2) := by decide +kernel
theorem dX2_commonDivisor_3 : decode cX2_commonDivisor 3 = .ok (.lload_n 2, 1) := by decide +kernel
theorem dX2_commonDivisor_4 : decode cX2_commonDivisor 4 = .ok (.lstore 6, 2) := by decide +kernel
theorem dX2_commonDivisor_6 : decode cX2_commonDivisor 6 = .ok (.iconst 0, 1) := by decide +kernel
theorem dX2_commonDivisor_7 : decode cX2_commonDivisor 7 = .ok (.istore 8, 2) := by decide +kernel
theorem dX2_commonDivisor_9 : decode cX2_commonDivisor 9 = .ok (.iload 8, 2) := by decide +kernel
theorem dX2_commonDivisor_11 : decode cX2_commonDivisor 11 = .ok (.sipush 1000, 3) := by decide +kernel
theorem dX2_commonDivisor_14 : decode cX2_commonDivisor 14 = .ok (.if_icmp .ge 31, 3) := by decide +kernel
theorem dX2_commonDivisor_17 : decode cX2_commonDivisor 17 = .ok (.lload 6, 2) := by decide +kernel
theorem dX2_commonDivisor_19 : decode cX2_commonDivisor 19 = .ok (.lconst 0, 1) := by decide +kernel
theorem dX2_commonDivisor_20 : decode cX2_commonDivisor 20 = .ok (.lcmp, 1) := by decide +kernel
theorem dX2_commonDivisor_21 : decode cX2_commonDivisor 21 = .ok (.ifCond .le 24, 3) := by decide +kernel
theorem dX2_commonDivisor_24 : decode cX2_commonDivisor 24 = .ok (.lload 4, 2) := by decide +kernel
theorem dX2_commonDivisor_26 : decode cX2_commonDivisor 26 = .ok (.lload 6, 2) := by decide +kernel
theorem dX2_commonDivisor_28 : decode cX2_commonDivisor 28 = .ok (.lrem, 1) := by decide +kernel
theorem dX2_commonDivisor_29 : decode cX2_commonDivisor 29 = .ok (.lstore 9, 2) := by decide +kernel
theorem dX2_commonDivisor_31 : decode cX2_commonDivisor 31 = .ok (.lload 6, 2) := by decide +kernel
theorem dX2_commonDivisor_33 : decode cX2_commonDivisor 33 = .ok (.lstore 4, 2) := by decide +kernel
theorem dX2_commonDivisor_35 : decode cX2_commonDivisor 35 = .ok (.lload 9, 2) := by decide +kernel
theorem dX2_commonDivisor_37 : decode cX2_commonDivisor 37 = .ok (.lstore 6, 2) := by decide +kernel
theorem dX2_commonDivisor_39 : decode cX2_commonDivisor 39 = .ok (.iinc 8 1, 3) := by decide +kernel
theorem dX2_commonDivisor_42 : decode cX2_commonDivisor 42 = .ok (.goto (-33), 3) := by decide +kernel
theorem dX2_commonDivisor_45 : decode cX2_commonDivisor 45 = .ok (.lconst 1, 1) := by decide +kernel
theorem dX2_commonDivisor_46 : decode cX2_commonDivisor 46 = .ok (.lload 4, 2) := by decide +kernel
theorem dX2_commonDivisor_48 : decode cX2_commonDivisor 48 = .ok (.invokestatic 117, 3) := by decide +kernel
theorem dX2_commonDivisor_51 : decode cX2_commonDivisor 51 = .ok (.lreturn, 1) := by decide +kernel
theorem dX2_decades_0 : decode cX2_decades 0 = .ok (.aload_n 0, 1) := by decide +kernel
theorem dX2_decades_1 : decode cX2_decades 1 = .ok (.getfield 12, 3) := by decide +kernel
theorem dX2_decades_4 : decode cX2_decades 4 = .ok (.aload_n 1, 1) := by decide +kernel
theorem dX2_decades_5 : decode cX2_decades 5 = .ok (.invokevirtual 25, 3) := by decide +kernel
theorem dX2_decades_8 : decode cX2_decades 8 = .ok (.iload_n 3, 1) := by decide +kernel
theorem dX2_decades_9 : decode cX2_decades 9 = .ok (.i2l, 1) := by decide +kernel
theorem dX2_decades_10 : decode cX2_decades 10 = .ok (.lstore 4, 2) := by decide +kernel
theorem dX2_decades_12 : decode cX2_decades 12 = .ok (.iconst 0, 1) := by decide +kernel
theorem dX2_decades_13 : decode cX2_decades 13 = .ok (.istore 6, 2) := by decide +kernel
theorem dX2_decades_15 : decode cX2_decades 15 = .ok (.iload 6, 2) := by decide +kernel
theorem dX2_decades_17 : decode cX2_decades 17 = .ok (.iload_n 2, 1) := by decide +kernel
theorem dX2_decades_18 : decode cX2_decades 18 = .ok (.if_icmp .ge 112, 3) := by decide +kernel
theorem dX2_decades_21 : decode cX2_decades 21 = .ok (.aload_n 1, 1) := by decide +kernel
theorem dX2_decades_22 : decode cX2_decades 22 = .ok (.getfield 44, 3) := by decide +kernel
theorem dX2_decades_25 : decode cX2_decades 25 = .ok (.ifCond .le 105, 3) := by decide +kernel
theorem dX2_decades_28 : decode cX2_decades 28 = .ok (.lload 4, 2) := by decide +kernel
theorem dX2_decades_30 : decode cX2_decades 30 = .ok (.ldc2_w 119, 3) := by decide +kernel
theorem dX2_decades_33 : decode cX2_decades 33 = .ok (.lmul, 1) := by decide +kernel
theorem dX2_decades_34 : decode cX2_decades 34 = .ok (.ldc2_w 121, 3) := by decide +kernel
theorem dX2_decades_37 : decode cX2_decades 37 = .ok (.lrem, 1) := by decide +kernel
theorem dX2_decades_38 : decode cX2_decades 38 = .ok (.lstore 4, 2) := by decide +kernel
theorem dX2_decades_40 : decode cX2_decades 40 = .ok (.lload 4, 2) := by decide +kernel
theorem dX2_decades_42 : decode cX2_decades 42 = .ok (.aload_n 1, 1) := by decide +kernel
theorem dX2_decades_43 : decode cX2_decades 43 = .ok (.getfield 44, 3) := by decide +kernel
theorem dX2_decades_46 : decode cX2_decades 46 = .ok (.i2l, 1) := by decide +kernel
theorem dX2_decades_47 : decode cX2_decades 47 = .ok (.lrem, 1) := by decide +kernel
theorem dX2_decades_48 : decode cX2_decades 48 = .ok (.l2i, 1) := by decide +kernel
theorem dX2_decades_49 : decode cX2_decades 49 = .ok (.istore 7, 2) := by decide +kernel
theorem dX2_decades_51 : decode cX2_decades 51 = .ok (.aload_n 0, 1) := by decide +kernel
theorem dX2_decades_52 : decode cX2_decades 52 = .ok (.getfield 12, 3) := by decide +kernel
theorem dX2_decades_55 : decode cX2_decades 55 = .ok (.getfield 33, 3) := by decide +kernel
theorem dX2_decades_58 : decode cX2_decades 58 = .ok (.iload 7, 2) := by decide +kernel
theorem dX2_decades_60 : decode cX2_decades 60 = .ok (.iaload, 1) := by decide +kernel
theorem dX2_decades_61 : decode cX2_decades 61 = .ok (.ifCond .le 33, 3) := by decide +kernel
theorem dX2_decades_64 : decode cX2_decades 64 = .ok (.lload 4, 2) := by decide +kernel
theorem dX2_decades_66 : decode cX2_decades 66 = .ok (.ldc2_w 123, 3) := by decide +kernel
theorem dX2_decades_69 : decode cX2_decades 69 = .ok (.lrem, 1) := by decide +kernel
theorem dX2_decades_70 : decode cX2_decades 70 = .ok (.lconst 0, 1) := by decide +kernel
theorem dX2_decades_71 : decode cX2_decades 71 = .ok (.lcmp, 1) := by decide +kernel
theorem dX2_decades_72 : decode cX2_decades 72 = .ok (.ifCond .ne 45, 3) := by decide +kernel
theorem dX2_decades_75 : decode cX2_decades 75 = .ok (.aload_n 0, 1) := by decide +kernel
theorem dX2_decades_76 : decode cX2_decades 76 = .ok (.getfield 12, 3) := by decide +kernel
theorem dX2_decades_79 : decode cX2_decades 79 = .ok (.iload 7, 2) := by decide +kernel
theorem dX2_decades_81 : decode cX2_decades 81 = .ok (.aload_n 0, 1) := by decide +kernel
theorem dX2_decades_82 : decode cX2_decades 82 = .ok (.getfield 12, 3) := by decide +kernel
theorem dX2_decades_85 : decode cX2_decades 85 = .ok (.getfield 71, 3) := by decide +kernel
theorem dX2_decades_88 : decode cX2_decades 88 = .ok (.invokevirtual 74, 3) := by decide +kernel
theorem dX2_decades_91 : decode cX2_decades 91 = .ok (.goto 26, 3) := by decide +kernel
theorem dX2_decades_94 : decode cX2_decades 94 = .ok (.lload 4, 2) := by decide +kernel
theorem dX2_decades_96 : decode cX2_decades 96 = .ok (.ldc2_w 125, 3) := by decide +kernel
theorem dX2_decades_99 : decode cX2_decades 99 = .ok (.lrem, 1) := by decide +kernel
theorem dX2_decades_100 : decode cX2_decades 100 = .ok (.lconst 0, 1) := by decide +kernel
theorem dX2_decades_101 : decode cX2_decades 101 = .ok (.lcmp, 1) := by decide +kernel
theorem dX2_decades_102 : decode cX2_decades 102 = .ok (.ifCond .ne 15, 3) := by decide +kernel
theorem dX2_decades_105 : decode cX2_decades 105 = .ok (.aload_n 0, 1) := by decide +kernel
theorem dX2_decades_106 : decode cX2_decades 106 = .ok (.getfield 12, 3) := by decide +kernel
theorem dX2_decades_109 : decode cX2_decades 109 = .ok (.getfield 33, 3) := by decide +kernel
theorem dX2_decades_112 : decode cX2_decades 112 = .ok (.iload 7, 2) := by decide +kernel
theorem dX2_decades_114 : decode cX2_decades 114 = .ok (.bipush 50, 2) := by decide +kernel
theorem dX2_decades_116 : decode cX2_decades 116 = .ok (.iastore, 1) := by decide +kernel
theorem dX2_decades_117 : decode cX2_decades 117 = .ok (.aload_n 0, 1) := by decide +kernel
theorem dX2_decades_118 : decode cX2_decades 118 = .ok (.getfield 12, 3) := by decide +kernel
theorem dX2_decades_121 : decode cX2_decades 121 = .ok (.invokevirtual 40, 3) := by decide +kernel
theorem dX2_decades_124 : decode cX2_decades 124 = .ok (.iinc 6 1, 3) := by decide +kernel
theorem dX2_decades_127 : decode cX2_decades 127 = .ok (.goto (-112), 3) := by decide +kernel
theorem dX2_decades_130 : decode cX2_decades 130 = .ok (.aload_n 0, 1) := by decide +kernel
theorem dX2_decades_131 : decode cX2_decades 131 = .ok (.getfield 12, 3) := by decide +kernel
theorem dX2_decades_134 : decode cX2_decades 134 = .ok (.areturn, 1) := by decide +kernel
theorem dX3_init_0 : decode cX3_init 0 = .ok (.aload_n 0, 1) := by decide +kernel
theorem dX3_init_1 : decode cX3_init 1 = .ok (.invokespecial 3, 3) := by decide +kernel
theorem dX3_init_4 : decode cX3_init 4 = .ok (.aload_n 0, 1) := by decide +kernel
theorem dX3_init_5 : decode cX3_init 5 = .ok (.bipush 8, 2) := by decide +kernel
theorem dX3_init_7 : decode cX3_init 7 = .ok (.anewarray 9, 3) := by decide +kernel
theorem dX3_init_10 : decode cX3_init 10 = .ok (.putfield 11, 3) := by decide +kernel
theorem dX3_init_13 : decode cX3_init 13 = .ok (.aload_n 0, 1) := by decide +kernel
theorem dX3_init_14 : decode cX3_init 14 = .ok (.bipush 7, 2) := by decide +kernel
theorem dX3_init_16 : decode cX3_init 16 = .ok (.newarray .int, 2) := by decide +kernel
theorem dX3_init_18 : decode cX3_init 18 = .ok (.putfield 17, 3) := by decide +kernel
theorem dX3_init_21 : decode cX3_init 21 = .ok (.aload_n 0, 1) := by decide +kernel
theorem dX3_init_22 : decode cX3_init 22 = .ok (.bipush 7, 2) := by decide +kernel
theorem dX3_init_24 : decode cX3_init 24 = .ok (.newarray .int, 2) := by decide +kernel
theorem dX3_init_26 : decode cX3_init 26 = .ok (.putfield 21, 3) := by decide +kernel
theorem dX3_init_29 : decode cX3_init 29 = .ok (.iconst 0, 1) := by decide +kernel
theorem dX3_init_30 : decode cX3_init 30 = .ok (.istore_n 1, 1) := by decide +kernel
theorem dX3_init_31 : decode cX3_init 31 = .ok (.iload_n 1, 1) := by decide +kernel
theorem dX3_init_32 : decode cX3_init 32 = .ok (.bipush 7, 2) := by decide +kernel
theorem dX3_init_34 : decode cX3_init 34 = .ok (.if_icmp .gt 22, 3) := by decide +kernel
theorem dX3_init_37 : decode cX3_init 37 = .ok (.aload_n 0, 1) := by decide +kernel
theorem dX3_init_38 : decode cX3_init 38 = .ok (.getfield 11, 3) := by decide +kernel
theorem dX3_init_41 : decode cX3_init 41 = .ok (.iload_n 1, 1) := by decide +kernel
theorem dX3_init_42 : decode cX3_init 42 = .ok (.new 9, 3) := by decide +kernel
theorem dX3_init_45 : decode cX3_init 45 = .ok (.dup, 1) := by decide +kernel
theorem dX3_init_46 : decode cX3_init 46 = .ok (.invokespecial 24, 3) := by decide +kernel
theorem dX3_init_49 : decode cX3_init 49 = .ok (.aastore, 1) := by decide +kernel
theorem dX3_init_50 : decode cX3_init 50 = .ok (.iinc 1 1, 3) := by decide +kernel
theorem dX3_init_53 : decode cX3_init 53 = .ok (.goto (-22), 3) := by decide +kernel
theorem dX3_init_56 : decode cX3_init 56 = .ok (.return_, 1) := by decide +kernel
theorem dX3_search_0 : decode cX3_search 0 = .ok (.aload_n 0, 1) := by decide +kernel
theorem dX3_search_1 : decode cX3_search 1 = .ok (.iconst (-1), 1) := by decide +kernel
theorem dX3_search_2 : decode cX3_search 2 = .ok (.putfield 25, 3) := by decide +kernel
theorem dX3_search_5 : decode cX3_search 5 = .ok (.aload_n 0, 1) := by decide +kernel
theorem dX3_search_6 : decode cX3_search 6 = .ok (.iconst (-1), 1) := by decide +kernel
theorem dX3_search_7 : decode cX3_search 7 = .ok (.putfield 29, 3) := by decide +kernel
theorem dX3_search_10 : decode cX3_search 10 = .ok (.aload_n 0, 1) := by decide +kernel
theorem dX3_search_11 : decode cX3_search 11 = .ok (.getfield 11, 3) := by decide +kernel
theorem dX3_search_14 : decode cX3_search 14 = .ok (.iconst 0, 1) := by decide +kernel
theorem dX3_search_15 : decode cX3_search 15 = .ok (.aaload, 1) := by decide +kernel
theorem dX3_search_16 : decode cX3_search 16 = .ok (.aload_n 1, 1) := by decide +kernel
theorem dX3_search_17 : decode cX3_search 17 = .ok (.invokevirtual 32, 3) := by decide +kernel
theorem dX3_search_20 : decode cX3_search 20 = .ok (.aload_n 0, 1) := by decide +kernel
theorem dX3_search_21 : decode cX3_search 21 = .ok (.iconst 0, 1) := by decide +kernel
theorem dX3_search_22 : decode cX3_search 22 = .ok (.iload_n 3, 1) := by decide +kernel
theorem dX3_search_23 : decode cX3_search 23 = .ok (.iload_n 2, 1) := by decide +kernel
theorem dX3_search_24 : decode cX3_search 24 = .ok (.invokestatic 36, 3) := by decide +kernel
theorem dX3_search_27 : decode cX3_search 27 = .ok (.return_, 1) := by decide +kernel
theorem dX3_walk_0 : decode cX3_walk 0 = .ok (.iload_n 1, 1) := by decide +kernel
theorem dX3_walk_1 : decode cX3_walk 1 = .ok (.iload_n 2, 1) := by decide +kernel
theorem dX3_walk_2 : decode cX3_walk 2 = .ok (.if_icmp .ge 9, 3) := by decide +kernel
theorem dX3_walk_5 : decode cX3_walk 5 = .ok (.iload_n 1, 1) := by decide +kernel
theorem dX3_walk_6 : decode cX3_walk 6 = .ok (.bipush 7, 2) := by decide +kernel
theorem dX3_walk_8 : decode cX3_walk 8 = .ok (.if_icmp .lt 14, 3) := by decide +kernel
theorem dX3_walk_11 : decode cX3_walk 11 = .ok (.aload_n 0, 1) := by decide +kernel
theorem dX3_walk_12 : decode cX3_walk 12 = .ok (.aload_n 0, 1) := by decide +kernel
theorem dX3_walk_13 : decode cX3_walk 13 = .ok (.getfield 11, 3) := by decide +kernel
theorem dX3_walk_16 : decode cX3_walk 16 = .ok (.iload_n 1, 1) := by decide +kernel
theorem dX3_walk_17 : decode cX3_walk 17 = .ok (.aaload, 1) := by decide +kernel
theorem dX3_walk_18 : decode cX3_walk 18 = .ok (.invokevirtual 40, 3) := by decide +kernel
theorem dX3_walk_21 : decode cX3_walk 21 = .ok (.return_, 1) := by decide +kernel
theorem dX3_walk_22 : decode cX3_walk 22 = .ok (.aload_n 0, 1) := by decide +kernel
theorem dX3_walk_23 : decode cX3_walk 23 = .ok (.getfield 11, 3) := by decide +kernel
theorem dX3_walk_26 : decode cX3_walk 26 = .ok (.iload_n 1, 1) := by decide +kernel
theorem dX3_walk_27 : decode cX3_walk 27 = .ok (.aaload, 1) := by decide +kernel
theorem dX3_walk_28 : decode cX3_walk 28 = .ok (.astore 4, 2) := by decide +kernel
theorem dX3_walk_30 : decode cX3_walk 30 = .ok (.aload_n 0, 1) := by decide +kernel
theorem dX3_walk_31 : decode cX3_walk 31 = .ok (.getfield 11, 3) := by decide +kernel
theorem dX3_walk_34 : decode cX3_walk 34 = .ok (.iload_n 1, 1) := by decide +kernel
theorem dX3_walk_35 : decode cX3_walk 35 = .ok (.iconst 1, 1) := by decide +kernel
theorem dX3_walk_36 : decode cX3_walk 36 = .ok (.iadd, 1) := by decide +kernel
theorem dX3_walk_37 : decode cX3_walk 37 = .ok (.aaload, 1) := by decide +kernel
theorem dX3_walk_38 : decode cX3_walk 38 = .ok (.astore 5, 2) := by decide +kernel
theorem dX3_walk_40 : decode cX3_walk 40 = .ok (.iconst 0, 1) := by decide +kernel
theorem dX3_walk_41 : decode cX3_walk 41 = .ok (.istore 6, 2) := by decide +kernel
theorem dX3_walk_43 : decode cX3_walk 43 = .ok (.iload 6, 2) := by decide +kernel
theorem dX3_walk_45 : decode cX3_walk 45 = .ok (.iconst 2, 1) := by decide +kernel
theorem dX3_walk_46 : decode cX3_walk 46 = .ok (.if_icmp .gt 86, 3) := by decide +kernel
theorem dX3_walk_49 : decode cX3_walk 49 = .ok (.iload_n 3, 1) := by decide +kernel
theorem dX3_walk_50 : decode cX3_walk 50 = .ok (.iload 6, 2) := by decide +kernel
theorem dX3_walk_52 : decode cX3_walk 52 = .ok (.iadd, 1) := by decide +kernel
theorem dX3_walk_53 : decode cX3_walk 53 = .ok (.iconst 1, 1) := by decide +kernel
theorem dX3_walk_54 : decode cX3_walk 54 = .ok (.isub, 1) := by decide +kernel
theorem dX3_walk_55 : decode cX3_walk 55 = .ok (.istore 7, 2) := by decide +kernel
theorem dX3_walk_57 : decode cX3_walk 57 = .ok (.iload 7, 2) := by decide +kernel
theorem dX3_walk_59 : decode cX3_walk 59 = .ok (.iconst 0, 1) := by decide +kernel
theorem dX3_walk_60 : decode cX3_walk 60 = .ok (.aload 4, 2) := by decide +kernel
theorem dX3_walk_62 : decode cX3_walk 62 = .ok (.getfield 43, 3) := by decide +kernel
theorem dX3_walk_65 : decode cX3_walk 65 = .ok (.iconst 1, 1) := by decide +kernel
theorem dX3_walk_66 : decode cX3_walk 66 = .ok (.isub, 1) := by decide +kernel
theorem dX3_walk_67 : decode cX3_walk 67 = .ok (.invokestatic 46, 3) := by decide +kernel
theorem dX3_walk_70 : decode cX3_walk 70 = .ok (.ifCond .eq 56, 3) := by decide +kernel
theorem dX3_walk_73 : decode cX3_walk 73 = .ok (.aload 5, 2) := by decide +kernel
theorem dX3_walk_75 : decode cX3_walk 75 = .ok (.aload 4, 2) := by decide +kernel
theorem dX3_walk_77 : decode cX3_walk 77 = .ok (.invokevirtual 32, 3) := by decide +kernel
theorem dX3_walk_80 : decode cX3_walk 80 = .ok (.aload 5, 2) := by decide +kernel
theorem dX3_walk_82 : decode cX3_walk 82 = .ok (.getfield 50, 3) := by decide +kernel
theorem dX3_walk_85 : decode cX3_walk 85 = .ok (.iload 7, 2) := by decide +kernel
theorem dX3_walk_87 : decode cX3_walk 87 = .ok (.iaload, 1) := by decide +kernel
theorem dX3_walk_88 : decode cX3_walk 88 = .ok (.ifCond .le 15, 3) := by decide +kernel
theorem dX3_walk_91 : decode cX3_walk 91 = .ok (.aload 5, 2) := by decide +kernel
theorem dX3_walk_93 : decode cX3_walk 93 = .ok (.iload 7, 2) := by decide +kernel
theorem dX3_walk_95 : decode cX3_walk 95 = .ok (.aload 5, 2) := by decide +kernel
theorem dX3_walk_97 : decode cX3_walk 97 = .ok (.getfield 53, 3) := by decide +kernel
theorem dX3_walk_100 : decode cX3_walk 100 = .ok (.invokevirtual 56, 3) := by decide +kernel
theorem dX3_walk_103 : decode cX3_walk 103 = .ok (.aload 5, 2) := by decide +kernel
theorem dX3_walk_105 : decode cX3_walk 105 = .ok (.invokevirtual 60, 3) := by decide +kernel
theorem dX3_walk_108 : decode cX3_walk 108 = .ok (.aload_n 0, 1) := by decide +kernel
theorem dX3_walk_109 : decode cX3_walk 109 = .ok (.getfield 17, 3) := by decide +kernel
theorem dX3_walk_112 : decode cX3_walk 112 = .ok (.iload_n 1, 1) := by decide +kernel
theorem dX3_walk_113 : decode cX3_walk 113 = .ok (.iload 6, 2) := by decide +kernel
theorem dX3_walk_115 : decode cX3_walk 115 = .ok (.iastore, 1) := by decide +kernel
theorem dX3_walk_116 : decode cX3_walk 116 = .ok (.aload_n 0, 1) := by decide +kernel
theorem dX3_walk_117 : decode cX3_walk 117 = .ok (.iload_n 1, 1) := by decide +kernel
theorem dX3_walk_118 : decode cX3_walk 118 = .ok (.iconst 1, 1) := by decide +kernel
theorem dX3_walk_119 : decode cX3_walk 119 = .ok (.iadd, 1) := by decide +kernel
theorem dX3_walk_120 : decode cX3_walk 120 = .ok (.iload_n 2, 1) := by decide +kernel
theorem dX3_walk_121 : decode cX3_walk 121 = .ok (.iload 7, 2) := by decide +kernel
theorem dX3_walk_123 : decode cX3_walk 123 = .ok (.invokestatic 36, 3) := by decide +kernel
theorem dX3_walk_126 : decode cX3_walk 126 = .ok (.iinc 6 1, 3) := by decide +kernel
theorem dX3_walk_129 : decode cX3_walk 129 = .ok (.goto (-86), 3) := by decide +kernel
theorem dX3_walk_132 : decode cX3_walk 132 = .ok (.return_, 1) := by decide +kernel
theorem dX3_weigh_0 : decode cX3_weigh 0 = .ok (.aload_n 1, 1) := by decide +kernel
theorem dX3_weigh_1 : decode cX3_weigh 1 = .ok (.invokevirtual 63, 3) := by decide +kernel
theorem dX3_weigh_4 : decode cX3_weigh 4 = .ok (.invokestatic 67, 3) := by decide +kernel
theorem dX3_weigh_7 : decode cX3_weigh 7 = .ok (.istore_n 2, 1) := by decide +kernel
theorem dX3_weigh_8 : decode cX3_weigh 8 = .ok (.aload_n 1, 1) := by decide +kernel
theorem dX3_weigh_9 : decode cX3_weigh 9 = .ok (.invokestatic 73, 3) := by decide +kernel
theorem dX3_weigh_12 : decode cX3_weigh 12 = .ok (.istore_n 3, 1) := by decide +kernel
theorem dX3_weigh_13 : decode cX3_weigh 13 = .ok (.iload_n 2, 1) := by decide +kernel
theorem dX3_weigh_14 : decode cX3_weigh 14 = .ok (.aload_n 0, 1) := by decide +kernel
theorem dX3_weigh_15 : decode cX3_weigh 15 = .ok (.getfield 25, 3) := by decide +kernel
theorem dX3_weigh_18 : decode cX3_weigh 18 = .ok (.if_icmp .gt 19, 3) := by decide +kernel
theorem dX3_weigh_21 : decode cX3_weigh 21 = .ok (.iload_n 2, 1) := by decide +kernel
theorem dX3_weigh_22 : decode cX3_weigh 22 = .ok (.aload_n 0, 1) := by decide +kernel
theorem dX3_weigh_23 : decode cX3_weigh 23 = .ok (.getfield 25, 3) := by decide +kernel
theorem dX3_weigh_26 : decode cX3_weigh 26 = .ok (.if_icmp .ne 36, 3) := by decide +kernel
theorem dX3_weigh_29 : decode cX3_weigh 29 = .ok (.iload_n 3, 1) := by decide +kernel
theorem dX3_weigh_30 : decode cX3_weigh 30 = .ok (.aload_n 0, 1) := by decide +kernel
theorem dX3_weigh_31 : decode cX3_weigh 31 = .ok (.getfield 29, 3) := by decide +kernel
theorem dX3_weigh_34 : decode cX3_weigh 34 = .ok (.if_icmp .le 28, 3) := by decide +kernel
theorem dX3_weigh_37 : decode cX3_weigh 37 = .ok (.aload_n 0, 1) := by decide +kernel
theorem dX3_weigh_38 : decode cX3_weigh 38 = .ok (.iload_n 2, 1) := by decide +kernel
theorem dX3_weigh_39 : decode cX3_weigh 39 = .ok (.putfield 25, 3) := by decide +kernel
theorem dX3_weigh_42 : decode cX3_weigh 42 = .ok (.aload_n 0, 1) := by decide +kernel
theorem dX3_weigh_43 : decode cX3_weigh 43 = .ok (.iload_n 3, 1) := by decide +kernel
theorem dX3_weigh_44 : decode cX3_weigh 44 = .ok (.putfield 29, 3) := by decide +kernel
theorem dX3_weigh_47 : decode cX3_weigh 47 = .ok (.aload_n 0, 1) := by decide +kernel
theorem dX3_weigh_48 : decode cX3_weigh 48 = .ok (.getfield 17, 3) := by decide +kernel
theorem dX3_weigh_51 : decode cX3_weigh 51 = .ok (.iconst 0, 1) := by decide +kernel
theorem dX3_weigh_52 : decode cX3_weigh 52 = .ok (.aload_n 0, 1) := by decide +kernel
theorem dX3_weigh_53 : decode cX3_weigh 53 = .ok (.getfield 21, 3) := by decide +kernel
theorem dX3_weigh_56 : decode cX3_weigh 56 = .ok (.iconst 0, 1) := by decide +kernel
theorem dX3_weigh_57 : decode cX3_weigh 57 = .ok (.bipush 7, 2) := by decide +kernel
theorem dX3_weigh_59 : decode cX3_weigh 59 = .ok (.invokestatic 77, 3) := by decide +kernel
theorem dX3_weigh_62 : decode cX3_weigh 62 = .ok (.return_, 1) := by decide +kernel
theorem dX3_leastSpin_0 : decode cX3_leastSpin 0 = .ok (.iconst 0, 1) := by decide +kernel
theorem dX3_leastSpin_1 : decode cX3_leastSpin 1 = .ok (.istore_n 1, 1) := by decide +kernel
theorem dX3_leastSpin_2 : decode cX3_leastSpin 2 = .ok (.iconst 0, 1) := by decide +kernel
theorem dX3_leastSpin_3 : decode cX3_leastSpin 3 = .ok (.istore_n 2, 1) := by decide +kernel
theorem dX3_leastSpin_4 : decode cX3_leastSpin 4 = .ok (.iload_n 2, 1) := by decide +kernel
theorem dX3_leastSpin_5 : decode cX3_leastSpin 5 = .ok (.aload_n 0, 1) := by decide +kernel
theorem dX3_leastSpin_6 : decode cX3_leastSpin 6 = .ok (.getfield 43, 3) := by decide +kernel
theorem dX3_leastSpin_9 : decode cX3_leastSpin 9 = .ok (.if_icmp .ge 39, 3) := by decide +kernel
theorem dX3_leastSpin_12 : decode cX3_leastSpin 12 = .ok (.aload_n 0, 1) := by decide +kernel
theorem dX3_leastSpin_13 : decode cX3_leastSpin 13 = .ok (.getfield 50, 3) := by decide +kernel
theorem dX3_leastSpin_16 : decode cX3_leastSpin 16 = .ok (.iload_n 2, 1) := by decide +kernel
theorem dX3_leastSpin_17 : decode cX3_leastSpin 17 = .ok (.iaload, 1) := by decide +kernel
theorem dX3_leastSpin_18 : decode cX3_leastSpin 18 = .ok (.ifCond .le 24, 3) := by decide +kernel
theorem dX3_leastSpin_21 : decode cX3_leastSpin 21 = .ok (.iload_n 1, 1) := by decide +kernel
theorem dX3_leastSpin_22 : decode cX3_leastSpin 22 = .ok (.ifCond .eq 13, 3) := by decide +kernel
theorem dX3_leastSpin_25 : decode cX3_leastSpin 25 = .ok (.aload_n 0, 1) := by decide +kernel
theorem dX3_leastSpin_26 : decode cX3_leastSpin 26 = .ok (.getfield 50, 3) := by decide +kernel
theorem dX3_leastSpin_29 : decode cX3_leastSpin 29 = .ok (.iload_n 2, 1) := by decide +kernel
theorem dX3_leastSpin_30 : decode cX3_leastSpin 30 = .ok (.iaload, 1) := by decide +kernel
theorem dX3_leastSpin_31 : decode cX3_leastSpin 31 = .ok (.iload_n 1, 1) := by decide +kernel
theorem dX3_leastSpin_32 : decode cX3_leastSpin 32 = .ok (.if_icmp .ge 10, 3) := by decide +kernel
theorem dX3_leastSpin_35 : decode cX3_leastSpin 35 = .ok (.aload_n 0, 1) := by decide +kernel
theorem dX3_leastSpin_36 : decode cX3_leastSpin 36 = .ok (.getfield 50, 3) := by decide +kernel
theorem dX3_leastSpin_39 : decode cX3_leastSpin 39 = .ok (.iload_n 2, 1) := by decide +kernel
theorem dX3_leastSpin_40 : decode cX3_leastSpin 40 = .ok (.iaload, 1) := by decide +kernel
theorem dX3_leastSpin_41 : decode cX3_leastSpin 41 = .ok (.istore_n 1, 1) := by decide +kernel
theorem dX3_leastSpin_42 : decode cX3_leastSpin 42 = .ok (.iinc 2 1, 3) := by decide +kernel
theorem dX3_leastSpin_45 : decode cX3_leastSpin 45 = .ok (.goto (-41), 3) := by decide +kernel
theorem dX3_leastSpin_48 : decode cX3_leastSpin 48 = .ok (.iload_n 1, 1) := by decide +kernel
theorem dX3_leastSpin_49 : decode cX3_leastSpin 49 = .ok (.ireturn, 1) := by decide +kernel
theorem dX4_init_0 : decode cX4_init 0 = .ok (.aload_n 0, 1) := by decide +kernel
theorem dX4_init_1 : decode cX4_init 1 = .ok (.invokespecial 3, 3) := by decide +kernel
theorem dX4_init_4 : decode cX4_init 4 = .ok (.aload_n 0, 1) := by decide +kernel
theorem dX4_init_5 : decode cX4_init 5 = .ok (.bipush 40, 2) := by decide +kernel
theorem dX4_init_7 : decode cX4_init 7 = .ok (.newarray .int, 2) := by decide +kernel
theorem dX4_init_9 : decode cX4_init 9 = .ok (.putfield 9, 3) := by decide +kernel
theorem dX4_init_12 : decode cX4_init 12 = .ok (.aload_n 0, 1) := by decide +kernel
theorem dX4_init_13 : decode cX4_init 13 = .ok (.iconst 1, 1) := by decide +kernel
theorem dX4_init_14 : decode cX4_init 14 = .ok (.putfield 15, 3) := by decide +kernel
theorem dX4_init_17 : decode cX4_init 17 = .ok (.return_, 1) := by decide +kernel
theorem dX4_make_0 : decode cX4_make 0 = .ok (.aload_n 0, 1) := by decide +kernel
theorem dX4_make_1 : decode cX4_make 1 = .ok (.iconst 0, 1) := by decide +kernel
theorem dX4_make_2 : decode cX4_make 2 = .ok (.putfield 15, 3) := by decide +kernel
theorem dX4_make_5 : decode cX4_make 5 = .ok (.aload_n 0, 1) := by decide +kernel
theorem dX4_make_6 : decode cX4_make 6 = .ok (.iload_n 1, 1) := by decide +kernel
theorem dX4_make_7 : decode cX4_make 7 = .ok (.putfield 19, 3) := by decide +kernel
theorem dX4_make_10 : decode cX4_make 10 = .ok (.aload_n 0, 1) := by decide +kernel
theorem dX4_make_11 : decode cX4_make 11 = .ok (.iload_n 2, 1) := by decide +kernel
theorem dX4_make_12 : decode cX4_make 12 = .ok (.putfield 23, 3) := by decide +kernel
theorem dX4_make_15 : decode cX4_make 15 = .ok (.iconst 0, 1) := by decide +kernel
theorem dX4_make_16 : decode cX4_make 16 = .ok (.istore_n 3, 1) := by decide +kernel
theorem dX4_make_17 : decode cX4_make 17 = .ok (.iload_n 3, 1) := by decide +kernel
theorem dX4_make_18 : decode cX4_make 18 = .ok (.bipush 40, 2) := by decide +kernel
theorem dX4_make_20 : decode cX4_make 20 = .ok (.if_icmp .ge 16, 3) := by decide +kernel
theorem dX4_make_23 : decode cX4_make 23 = .ok (.aload_n 0, 1) := by decide +kernel
theorem dX4_make_24 : decode cX4_make 24 = .ok (.getfield 9, 3) := by decide +kernel
theorem dX4_make_27 : decode cX4_make 27 = .ok (.iload_n 3, 1) := by decide +kernel
theorem dX4_make_28 : decode cX4_make 28 = .ok (.iconst 0, 1) := by decide +kernel
theorem dX4_make_29 : decode cX4_make 29 = .ok (.iastore, 1) := by decide +kernel
theorem dX4_make_30 : decode cX4_make 30 = .ok (.iinc 3 1, 3) := by decide +kernel
theorem dX4_make_33 : decode cX4_make 33 = .ok (.goto (-16), 3) := by decide +kernel
theorem dX4_make_36 : decode cX4_make 36 = .ok (.return_, 1) := by decide +kernel
theorem dX4_put_0 : decode cX4_put 0 = .ok (.aload_n 0, 1) := by decide +kernel
theorem dX4_put_1 : decode cX4_put 1 = .ok (.getfield 19, 3) := by decide +kernel
theorem dX4_put_4 : decode cX4_put 4 = .ok (.ifCond .ne 14, 3) := by decide +kernel
theorem dX4_put_7 : decode cX4_put 7 = .ok (.aload_n 0, 1) := by decide +kernel
theorem dX4_put_8 : decode cX4_put 8 = .ok (.getfield 9, 3) := by decide +kernel
theorem dX4_put_11 : decode cX4_put 11 = .ok (.iload_n 1, 1) := by decide +kernel
theorem dX4_put_12 : decode cX4_put 12 = .ok (.iload_n 2, 1) := by decide +kernel
theorem dX4_put_13 : decode cX4_put 13 = .ok (.i2b, 1) := by decide +kernel
theorem dX4_put_14 : decode cX4_put 14 = .ok (.iastore, 1) := by decide +kernel
theorem dX4_put_15 : decode cX4_put 15 = .ok (.goto 23, 3) := by decide +kernel
theorem dX4_put_18 : decode cX4_put 18 = .ok (.aload_n 0, 1) := by decide +kernel
theorem dX4_put_19 : decode cX4_put 19 = .ok (.getfield 9, 3) := by decide +kernel
theorem dX4_put_22 : decode cX4_put 22 = .ok (.iload_n 1, 1) := by decide +kernel
theorem dX4_put_23 : decode cX4_put 23 = .ok (.aload_n 0, 1) := by decide +kernel
theorem dX4_put_24 : decode cX4_put 24 = .ok (.getfield 19, 3) := by decide +kernel
theorem dX4_put_27 : decode cX4_put 27 = .ok (.iconst 1, 1) := by decide +kernel
theorem dX4_put_28 : decode cX4_put 28 = .ok (.if_icmp .ne 8, 3) := by decide +kernel
theorem dX4_put_31 : decode cX4_put 31 = .ok (.iload_n 2, 1) := by decide +kernel
theorem dX4_put_32 : decode cX4_put 32 = .ok (.i2s, 1) := by decide +kernel
theorem dX4_put_33 : decode cX4_put 33 = .ok (.goto 4, 3) := by decide +kernel
theorem dX4_put_36 : decode cX4_put 36 = .ok (.iload_n 2, 1) := by decide +kernel
theorem dX4_put_37 : decode cX4_put 37 = .ok (.iastore, 1) := by decide +kernel
theorem dX4_put_38 : decode cX4_put 38 = .ok (.aload_n 0, 1) := by decide +kernel
theorem dX4_put_39 : decode cX4_put 39 = .ok (.getfield 9, 3) := by decide +kernel
theorem dX4_put_42 : decode cX4_put 42 = .ok (.iload_n 1, 1) := by decide +kernel
theorem dX4_put_43 : decode cX4_put 43 = .ok (.iaload, 1) := by decide +kernel
theorem dX4_put_44 : decode cX4_put 44 = .ok (.ireturn, 1) := by decide +kernel
theorem dX4_spanFinding_0 : decode cX4_spanFinding 0 = .ok (.aload_n 0, 1) := by decide +kernel
theorem dX4_spanFinding_1 : decode cX4_spanFinding 1 = .ok (.getfield 15, 3) := by decide +kernel
theorem dX4_spanFinding_4 : decode cX4_spanFinding 4 = .ok (.ifCond .eq 5, 3) := by decide +kernel
theorem dX4_spanFinding_7 : decode cX4_spanFinding 7 = .ok (.iconst 1, 1) := by decide +kernel
theorem dX4_spanFinding_8 : decode cX4_spanFinding 8 = .ok (.ireturn, 1) := by decide +kernel
theorem dX4_spanFinding_9 : decode cX4_spanFinding 9 = .ok (.iload_n 1, 1) := by decide +kernel
theorem dX4_spanFinding_10 : decode cX4_spanFinding 10 = .ok (.ifCond .lt 25, 3) := by decide +kernel
theorem dX4_spanFinding_13 : decode cX4_spanFinding 13 = .ok (.iload_n 2, 1) := by decide +kernel
theorem dX4_spanFinding_14 : decode cX4_spanFinding 14 = .ok (.ifCond .lt 21, 3) := by decide +kernel
theorem dX4_spanFinding_17 : decode cX4_spanFinding 17 = .ok (.iload_n 1, 1) := by decide +kernel
theorem dX4_spanFinding_18 : decode cX4_spanFinding 18 = .ok (.aload_n 0, 1) := by decide +kernel
theorem dX4_spanFinding_19 : decode cX4_spanFinding 19 = .ok (.getfield 23, 3) := by decide +kernel
theorem dX4_spanFinding_22 : decode cX4_spanFinding 22 = .ok (.if_icmp .gt 13, 3) := by decide +kernel
theorem dX4_spanFinding_25 : decode cX4_spanFinding 25 = .ok (.iload_n 2, 1) := by decide +kernel
theorem dX4_spanFinding_26 : decode cX4_spanFinding 26 = .ok (.aload_n 0, 1) := by decide +kernel
theorem dX4_spanFinding_27 : decode cX4_spanFinding 27 = .ok (.getfield 23, 3) := by decide +kernel
theorem dX4_spanFinding_30 : decode cX4_spanFinding 30 = .ok (.iload_n 1, 1) := by decide +kernel
theorem dX4_spanFinding_31 : decode cX4_spanFinding 31 = .ok (.isub, 1) := by decide +kernel
theorem dX4_spanFinding_32 : decode cX4_spanFinding 32 = .ok (.if_icmp .le 7, 3) := by decide +kernel
theorem dX4_spanFinding_35 : decode cX4_spanFinding 35 = .ok (.iconst 2, 1) := by decide +kernel
theorem dX4_spanFinding_36 : decode cX4_spanFinding 36 = .ok (.goto 4, 3) := by decide +kernel
theorem dX4_spanFinding_39 : decode cX4_spanFinding 39 = .ok (.iconst 0, 1) := by decide +kernel
theorem dX4_spanFinding_40 : decode cX4_spanFinding 40 = .ok (.ireturn, 1) := by decide +kernel
theorem dX5_init_0 : decode cX5_init 0 = .ok (.aload_n 0, 1) := by decide +kernel
theorem dX5_init_1 : decode cX5_init 1 = .ok (.invokespecial 3, 3) := by decide +kernel
theorem dX5_init_4 : decode cX5_init 4 = .ok (.aload_n 0, 1) := by decide +kernel
theorem dX5_init_5 : decode cX5_init 5 = .ok (.bipush 8, 2) := by decide +kernel
theorem dX5_init_7 : decode cX5_init 7 = .ok (.newarray .int, 2) := by decide +kernel
theorem dX5_init_9 : decode cX5_init 9 = .ok (.putfield 9, 3) := by decide +kernel
theorem dX5_init_12 : decode cX5_init 12 = .ok (.aload_n 0, 1) := by decide +kernel
theorem dX5_init_13 : decode cX5_init 13 = .ok (.bipush 8, 2) := by decide +kernel
theorem dX5_init_15 : decode cX5_init 15 = .ok (.newarray .int, 2) := by decide +kernel
theorem dX5_init_17 : decode cX5_init 17 = .ok (.putfield 15, 3) := by decide +kernel
theorem dX5_init_20 : decode cX5_init 20 = .ok (.aload_n 0, 1) := by decide +kernel
theorem dX5_init_21 : decode cX5_init 21 = .ok (.bipush 8, 2) := by decide +kernel
theorem dX5_init_23 : decode cX5_init 23 = .ok (.newarray .int, 2) := by decide +kernel
theorem dX5_init_25 : decode cX5_init 25 = .ok (.putfield 18, 3) := by decide +kernel
theorem dX5_init_28 : decode cX5_init 28 = .ok (.return_, 1) := by decide +kernel
theorem dX5_add_0 : decode cX5_add 0 = .ok (.aload_n 0, 1) := by decide +kernel
theorem dX5_add_1 : decode cX5_add 1 = .ok (.getfield 21, 3) := by decide +kernel
theorem dX5_add_4 : decode cX5_add 4 = .ok (.bipush 8, 2) := by decide +kernel
theorem dX5_add_6 : decode cX5_add 6 = .ok (.if_icmp .ge 43, 3) := by decide +kernel
theorem dX5_add_9 : decode cX5_add 9 = .ok (.aload_n 0, 1) := by decide +kernel
theorem dX5_add_10 : decode cX5_add 10 = .ok (.getfield 9, 3) := by decide +kernel
theorem dX5_add_13 : decode cX5_add 13 = .ok (.aload_n 0, 1) := by decide +kernel
theorem dX5_add_14 : decode cX5_add 14 = .ok (.getfield 21, 3) := by decide +kernel
theorem dX5_add_17 : decode cX5_add 17 = .ok (.iload_n 1, 1) := by decide +kernel
theorem dX5_add_18 : decode cX5_add 18 = .ok (.iastore, 1) := by decide +kernel
theorem dX5_add_19 : decode cX5_add 19 = .ok (.aload_n 0, 1) := by decide +kernel
theorem dX5_add_20 : decode cX5_add 20 = .ok (.getfield 18, 3) := by decide +kernel
theorem dX5_add_23 : decode cX5_add 23 = .ok (.aload_n 0, 1) := by decide +kernel
theorem dX5_add_24 : decode cX5_add 24 = .ok (.getfield 21, 3) := by decide +kernel
theorem dX5_add_27 : decode cX5_add 27 = .ok (.iload_n 2, 1) := by decide +kernel
theorem dX5_add_28 : decode cX5_add 28 = .ok (.iastore, 1) := by decide +kernel
theorem dX5_add_29 : decode cX5_add 29 = .ok (.aload_n 0, 1) := by decide +kernel
theorem dX5_add_30 : decode cX5_add 30 = .ok (.getfield 15, 3) := by decide +kernel
theorem dX5_add_33 : decode cX5_add 33 = .ok (.aload_n 0, 1) := by decide +kernel
theorem dX5_add_34 : decode cX5_add 34 = .ok (.getfield 21, 3) := by decide +kernel
theorem dX5_add_37 : decode cX5_add 37 = .ok (.iload_n 3, 1) := by decide +kernel
theorem dX5_add_38 : decode cX5_add 38 = .ok (.iastore, 1) := by decide +kernel
theorem dX5_add_39 : decode cX5_add 39 = .ok (.aload_n 0, 1) := by decide +kernel
theorem dX5_add_40 : decode cX5_add 40 = .ok (.dup, 1) := by decide +kernel
theorem dX5_add_41 : decode cX5_add 41 = .ok (.getfield 21, 3) := by decide +kernel
theorem dX5_add_44 : decode cX5_add 44 = .ok (.iconst 1, 1) := by decide +kernel
theorem dX5_add_45 : decode cX5_add 45 = .ok (.iadd, 1) := by decide +kernel
theorem dX5_add_46 : decode cX5_add 46 = .ok (.putfield 21, 3) := by decide +kernel
theorem dX5_add_49 : decode cX5_add 49 = .ok (.return_, 1) := by decide +kernel
theorem dX5_take_0 : decode cX5_take 0 = .ok (.aload_n 1, 1) := by decide +kernel
theorem dX5_take_1 : decode cX5_take 1 = .ok (.getfield 9, 3) := by decide +kernel
theorem dX5_take_4 : decode cX5_take 4 = .ok (.iconst 0, 1) := by decide +kernel
theorem dX5_take_5 : decode cX5_take 5 = .ok (.aload_n 0, 1) := by decide +kernel
theorem dX5_take_6 : decode cX5_take 6 = .ok (.getfield 9, 3) := by decide +kernel
theorem dX5_take_9 : decode cX5_take 9 = .ok (.iconst 0, 1) := by decide +kernel
theorem dX5_take_10 : decode cX5_take 10 = .ok (.bipush 8, 2) := by decide +kernel
theorem dX5_take_12 : decode cX5_take 12 = .ok (.invokestatic 25, 3) := by decide +kernel
theorem dX5_take_15 : decode cX5_take 15 = .ok (.aload_n 1, 1) := by decide +kernel
theorem dX5_take_16 : decode cX5_take 16 = .ok (.getfield 15, 3) := by decide +kernel
theorem dX5_take_19 : decode cX5_take 19 = .ok (.iconst 0, 1) := by decide +kernel
theorem dX5_take_20 : decode cX5_take 20 = .ok (.aload_n 0, 1) := by decide +kernel
theorem dX5_take_21 : decode cX5_take 21 = .ok (.getfield 15, 3) := by decide +kernel
theorem dX5_take_24 : decode cX5_take 24 = .ok (.iconst 0, 1) := by decide +kernel
theorem dX5_take_25 : decode cX5_take 25 = .ok (.bipush 8, 2) := by decide +kernel
theorem dX5_take_27 : decode cX5_take 27 = .ok (.invokestatic 25, 3) := by decide +kernel
theorem dX5_take_30 : decode cX5_take 30 = .ok (.aload_n 1, 1) := by decide +kernel
theorem dX5_take_31 : decode cX5_take 31 = .ok (.getfield 18, 3) := by decide +kernel
theorem dX5_take_34 : decode cX5_take 34 = .ok (.iconst 0, 1) := by decide +kernel
theorem dX5_take_35 : decode cX5_take 35 = .ok (.aload_n 0, 1) := by decide +kernel
theorem dX5_take_36 : decode cX5_take 36 = .ok (.getfield 18, 3) := by decide +kernel
theorem dX5_take_39 : decode cX5_take 39 = .ok (.iconst 0, 1) := by decide +kernel
theorem dX5_take_40 : decode cX5_take 40 = .ok (.bipush 8, 2) := by decide +kernel
theorem dX5_take_42 : decode cX5_take 42 = .ok (.invokestatic 25, 3) := by decide +kernel
theorem dX5_take_45 : decode cX5_take 45 = .ok (.aload_n 0, 1) := by decide +kernel
theorem dX5_take_46 : decode cX5_take 46 = .ok (.aload_n 1, 1) := by decide +kernel
theorem dX5_take_47 : decode cX5_take 47 = .ok (.getfield 21, 3) := by decide +kernel
theorem dX5_take_50 : decode cX5_take 50 = .ok (.putfield 21, 3) := by decide +kernel
theorem dX5_take_53 : decode cX5_take 53 = .ok (.aload_n 0, 1) := by decide +kernel
theorem dX5_take_54 : decode cX5_take 54 = .ok (.aload_n 1, 1) := by decide +kernel
theorem dX5_take_55 : decode cX5_take 55 = .ok (.getfield 31, 3) := by decide +kernel
theorem dX5_take_58 : decode cX5_take 58 = .ok (.putfield 31, 3) := by decide +kernel
theorem dX5_take_61 : decode cX5_take 61 = .ok (.aload_n 0, 1) := by decide +kernel
theorem dX5_take_62 : decode cX5_take 62 = .ok (.aload_n 1, 1) := by decide +kernel
theorem dX5_take_63 : decode cX5_take 63 = .ok (.getfield 34, 3) := by decide +kernel
theorem dX5_take_66 : decode cX5_take 66 = .ok (.putfield 34, 3) := by decide +kernel
theorem dX5_take_69 : decode cX5_take 69 = .ok (.aload_n 0, 1) := by decide +kernel
theorem dX5_take_70 : decode cX5_take 70 = .ok (.aload_n 1, 1) := by decide +kernel
theorem dX5_take_71 : decode cX5_take 71 = .ok (.getfield 37, 3) := by decide +kernel
theorem dX5_take_74 : decode cX5_take 74 = .ok (.putfield 37, 3) := by decide +kernel
theorem dX5_take_77 : decode cX5_take 77 = .ok (.aload_n 0, 1) := by decide +kernel
theorem dX5_take_78 : decode cX5_take 78 = .ok (.aload_n 1, 1) := by decide +kernel
theorem dX5_take_79 : decode cX5_take 79 = .ok (.getfield 40, 3) := by decide +kernel
theorem dX5_take_82 : decode cX5_take 82 = .ok (.putfield 40, 3) := by decide +kernel
theorem dX5_take_85 : decode cX5_take 85 = .ok (.return_, 1) := by decide +kernel
theorem dX5_raise_0 : decode cX5_raise 0 = .ok (.aload_n 0, 1) := by decide +kernel
theorem dX5_raise_1 : decode cX5_raise 1 = .ok (.getfield 18, 3) := by decide +kernel
theorem dX5_raise_4 : decode cX5_raise 4 = .ok (.iload_n 1, 1) := by decide +kernel
theorem dX5_raise_5 : decode cX5_raise 5 = .ok (.bipush 99, 2) := by decide +kernel
theorem dX5_raise_7 : decode cX5_raise 7 = .ok (.aload_n 0, 1) := by decide +kernel
theorem dX5_raise_8 : decode cX5_raise 8 = .ok (.getfield 18, 3) := by decide +kernel
theorem dX5_raise_11 : decode cX5_raise 11 = .ok (.iload_n 1, 1) := by decide +kernel
theorem dX5_raise_12 : decode cX5_raise 12 = .ok (.iaload, 1) := by decide +kernel
theorem dX5_raise_13 : decode cX5_raise 13 = .ok (.iload_n 2, 1) := by decide +kernel
theorem dX5_raise_14 : decode cX5_raise 14 = .ok (.iadd, 1) := by decide +kernel
theorem dX5_raise_15 : decode cX5_raise 15 = .ok (.invokestatic 43, 3) := by decide +kernel
theorem dX5_raise_18 : decode cX5_raise 18 = .ok (.iastore, 1) := by decide +kernel
theorem dX5_raise_19 : decode cX5_raise 19 = .ok (.return_, 1) := by decide +kernel
theorem dX5_leans_0 : decode cX5_leans 0 = .ok (.aload_n 0, 1) := by decide +kernel
theorem dX5_leans_1 : decode cX5_leans 1 = .ok (.getfield 18, 3) := by decide +kernel
theorem dX5_leans_4 : decode cX5_leans 4 = .ok (.iload_n 1, 1) := by decide +kernel
theorem dX5_leans_5 : decode cX5_leans 5 = .ok (.iaload, 1) := by decide +kernel
theorem dX5_leans_6 : decode cX5_leans 6 = .ok (.ifCond .le 20, 3) := by decide +kernel
theorem dX5_leans_9 : decode cX5_leans 9 = .ok (.aload_n 0, 1) := by decide +kernel
theorem dX5_leans_10 : decode cX5_leans 10 = .ok (.getfield 18, 3) := by decide +kernel
theorem dX5_leans_13 : decode cX5_leans 13 = .ok (.iload_n 1, 1) := by decide +kernel
theorem dX5_leans_14 : decode cX5_leans 14 = .ok (.iaload, 1) := by decide +kernel
theorem dX5_leans_15 : decode cX5_leans 15 = .ok (.aload_n 0, 1) := by decide +kernel
theorem dX5_leans_16 : decode cX5_leans 16 = .ok (.getfield 34, 3) := by decide +kernel
theorem dX5_leans_19 : decode cX5_leans 19 = .ok (.if_icmp .ge 7, 3) := by decide +kernel
theorem dX5_leans_22 : decode cX5_leans 22 = .ok (.iconst 1, 1) := by decide +kernel
theorem dX5_leans_23 : decode cX5_leans 23 = .ok (.goto 4, 3) := by decide +kernel
theorem dX5_leans_26 : decode cX5_leans 26 = .ok (.iconst 0, 1) := by decide +kernel
theorem dX5_leans_27 : decode cX5_leans 27 = .ok (.ireturn, 1) := by decide +kernel
theorem dX5_wallsOf_0 : decode cX5_wallsOf 0 = .ok (.iload_n 1, 1) := by decide +kernel
theorem dX5_wallsOf_1 : decode cX5_wallsOf 1 = .ok (.ifCond .le 16, 3) := by decide +kernel
theorem dX5_wallsOf_4 : decode cX5_wallsOf 4 = .ok (.aload_n 0, 1) := by decide +kernel
theorem dX5_wallsOf_5 : decode cX5_wallsOf 5 = .ok (.getfield 40, 3) := by decide +kernel
theorem dX5_wallsOf_8 : decode cX5_wallsOf 8 = .ok (.iload_n 1, 1) := by decide +kernel
theorem dX5_wallsOf_9 : decode cX5_wallsOf 9 = .ok (.iconst 1, 1) := by decide +kernel
theorem dX5_wallsOf_10 : decode cX5_wallsOf 10 = .ok (.isub, 1) := by decide +kernel
theorem dX5_wallsOf_11 : decode cX5_wallsOf 11 = .ok (.ishr, 1) := by decide +kernel
theorem dX5_wallsOf_12 : decode cX5_wallsOf 12 = .ok (.iconst 1, 1) := by decide +kernel
theorem dX5_wallsOf_13 : decode cX5_wallsOf 13 = .ok (.iand, 1) := by decide +kernel
theorem dX5_wallsOf_14 : decode cX5_wallsOf 14 = .ok (.goto 4, 3) := by decide +kernel
theorem dX5_wallsOf_17 : decode cX5_wallsOf 17 = .ok (.iconst 0, 1) := by decide +kernel
theorem dX5_wallsOf_18 : decode cX5_wallsOf 18 = .ok (.istore_n 2, 1) := by decide +kernel
theorem dX5_wallsOf_19 : decode cX5_wallsOf 19 = .ok (.iload_n 2, 1) := by decide +kernel
theorem dX5_wallsOf_20 : decode cX5_wallsOf 20 = .ok (.aload_n 0, 1) := by decide +kernel
theorem dX5_wallsOf_21 : decode cX5_wallsOf 21 = .ok (.getfield 40, 3) := by decide +kernel
theorem dX5_wallsOf_24 : decode cX5_wallsOf 24 = .ok (.iload_n 1, 1) := by decide +kernel
theorem dX5_wallsOf_25 : decode cX5_wallsOf 25 = .ok (.ishr, 1) := by decide +kernel
theorem dX5_wallsOf_26 : decode cX5_wallsOf 26 = .ok (.iconst 1, 1) := by decide +kernel
theorem dX5_wallsOf_27 : decode cX5_wallsOf 27 = .ok (.iand, 1) := by decide +kernel
theorem dX5_wallsOf_28 : decode cX5_wallsOf 28 = .ok (.iadd, 1) := by decide +kernel
theorem dX5_wallsOf_29 : decode cX5_wallsOf 29 = .ok (.ireturn, 1) := by decide +kernel
theorem dX5_standing_0 : decode cX5_standing 0 = .ok (.iconst 0, 1) := by decide +kernel
theorem dX5_standing_1 : decode cX5_standing 1 = .ok (.istore_n 1, 1) := by decide +kernel
theorem dX5_standing_2 : decode cX5_standing 2 = .ok (.iconst 0, 1) := by decide +kernel
theorem dX5_standing_3 : decode cX5_standing 3 = .ok (.istore_n 2, 1) := by decide +kernel
theorem dX5_standing_4 : decode cX5_standing 4 = .ok (.iload_n 2, 1) := by decide +kernel
theorem dX5_standing_5 : decode cX5_standing 5 = .ok (.aload_n 0, 1) := by decide +kernel
theorem dX5_standing_6 : decode cX5_standing 6 = .ok (.getfield 21, 3) := by decide +kernel
theorem dX5_standing_9 : decode cX5_standing 9 = .ok (.if_icmp .ge 28, 3) := by decide +kernel
theorem dX5_standing_12 : decode cX5_standing 12 = .ok (.iload_n 1, 1) := by decide +kernel
theorem dX5_standing_13 : decode cX5_standing 13 = .ok (.aload_n 0, 1) := by decide +kernel
theorem dX5_standing_14 : decode cX5_standing 14 = .ok (.getfield 18, 3) := by decide +kernel
theorem dX5_standing_17 : decode cX5_standing 17 = .ok (.iload_n 2, 1) := by decide +kernel
theorem dX5_standing_18 : decode cX5_standing 18 = .ok (.iaload, 1) := by decide +kernel
theorem dX5_standing_19 : decode cX5_standing 19 = .ok (.ifCond .le 9, 3) := by decide +kernel
theorem dX5_standing_22 : decode cX5_standing 22 = .ok (.iconst 1, 1) := by decide +kernel
theorem dX5_standing_23 : decode cX5_standing 23 = .ok (.iload_n 2, 1) := by decide +kernel
theorem dX5_standing_24 : decode cX5_standing 24 = .ok (.ishl, 1) := by decide +kernel
theorem dX5_standing_25 : decode cX5_standing 25 = .ok (.goto 4, 3) := by decide +kernel
theorem dX5_standing_28 : decode cX5_standing 28 = .ok (.iconst 0, 1) := by decide +kernel
theorem dX5_standing_29 : decode cX5_standing 29 = .ok (.ior, 1) := by decide +kernel
theorem dX5_standing_30 : decode cX5_standing 30 = .ok (.istore_n 1, 1) := by decide +kernel
theorem dX5_standing_31 : decode cX5_standing 31 = .ok (.iinc 2 1, 3) := by decide +kernel
theorem dX5_standing_34 : decode cX5_standing 34 = .ok (.goto (-30), 3) := by decide +kernel
theorem dX5_standing_37 : decode cX5_standing 37 = .ok (.iload_n 1, 1) := by decide +kernel
theorem dX5_standing_38 : decode cX5_standing 38 = .ok (.ireturn, 1) := by decide +kernel
theorem dX5_leaning_0 : decode cX5_leaning 0 = .ok (.iconst 0, 1) := by decide +kernel
theorem dX5_leaning_1 : decode cX5_leaning 1 = .ok (.istore_n 1, 1) := by decide +kernel
theorem dX5_leaning_2 : decode cX5_leaning 2 = .ok (.iconst 0, 1) := by decide +kernel
theorem dX5_leaning_3 : decode cX5_leaning 3 = .ok (.istore_n 2, 1) := by decide +kernel
theorem dX5_leaning_4 : decode cX5_leaning 4 = .ok (.iload_n 2, 1) := by decide +kernel
theorem dX5_leaning_5 : decode cX5_leaning 5 = .ok (.aload_n 0, 1) := by decide +kernel
theorem dX5_leaning_6 : decode cX5_leaning 6 = .ok (.getfield 21, 3) := by decide +kernel
theorem dX5_leaning_9 : decode cX5_leaning 9 = .ok (.if_icmp .ge 27, 3) := by decide +kernel
theorem dX5_leaning_12 : decode cX5_leaning 12 = .ok (.iload_n 1, 1) := by decide +kernel
theorem dX5_leaning_13 : decode cX5_leaning 13 = .ok (.aload_n 0, 1) := by decide +kernel
theorem dX5_leaning_14 : decode cX5_leaning 14 = .ok (.iload_n 2, 1) := by decide +kernel
theorem dX5_leaning_15 : decode cX5_leaning 15 = .ok (.invokevirtual 49, 3) := by decide +kernel
theorem dX5_leaning_18 : decode cX5_leaning 18 = .ok (.ifCond .eq 9, 3) := by decide +kernel
theorem dX5_leaning_21 : decode cX5_leaning 21 = .ok (.iconst 1, 1) := by decide +kernel
theorem dX5_leaning_22 : decode cX5_leaning 22 = .ok (.iload_n 2, 1) := by decide +kernel
theorem dX5_leaning_23 : decode cX5_leaning 23 = .ok (.ishl, 1) := by decide +kernel
theorem dX5_leaning_24 : decode cX5_leaning 24 = .ok (.goto 4, 3) := by decide +kernel
theorem dX5_leaning_27 : decode cX5_leaning 27 = .ok (.iconst 0, 1) := by decide +kernel
theorem dX5_leaning_28 : decode cX5_leaning 28 = .ok (.ior, 1) := by decide +kernel
theorem dX5_leaning_29 : decode cX5_leaning 29 = .ok (.istore_n 1, 1) := by decide +kernel
theorem dX5_leaning_30 : decode cX5_leaning 30 = .ok (.iinc 2 1, 3) := by decide +kernel
theorem dX5_leaning_33 : decode cX5_leaning 33 = .ok (.goto (-29), 3) := by decide +kernel
theorem dX5_leaning_36 : decode cX5_leaning 36 = .ok (.iload_n 1, 1) := by decide +kernel
theorem dX5_leaning_37 : decode cX5_leaning 37 = .ok (.ireturn, 1) := by decide +kernel
theorem dX5_allSpin_0 : decode cX5_allSpin 0 = .ok (.iconst 0, 1) := by decide +kernel
theorem dX5_allSpin_1 : decode cX5_allSpin 1 = .ok (.istore_n 1, 1) := by decide +kernel
theorem dX5_allSpin_2 : decode cX5_allSpin 2 = .ok (.iconst 0, 1) := by decide +kernel
theorem dX5_allSpin_3 : decode cX5_allSpin 3 = .ok (.istore_n 2, 1) := by decide +kernel
theorem dX5_allSpin_4 : decode cX5_allSpin 4 = .ok (.iload_n 2, 1) := by decide +kernel
theorem dX5_allSpin_5 : decode cX5_allSpin 5 = .ok (.aload_n 0, 1) := by decide +kernel
theorem dX5_allSpin_6 : decode cX5_allSpin 6 = .ok (.getfield 21, 3) := by decide +kernel
theorem dX5_allSpin_9 : decode cX5_allSpin 9 = .ok (.if_icmp .ge 18, 3) := by decide +kernel
theorem dX5_allSpin_12 : decode cX5_allSpin 12 = .ok (.iload_n 1, 1) := by decide +kernel
theorem dX5_allSpin_13 : decode cX5_allSpin 13 = .ok (.aload_n 0, 1) := by decide +kernel
theorem dX5_allSpin_14 : decode cX5_allSpin 14 = .ok (.getfield 18, 3) := by decide +kernel
theorem dX5_allSpin_17 : decode cX5_allSpin 17 = .ok (.iload_n 2, 1) := by decide +kernel
theorem dX5_allSpin_18 : decode cX5_allSpin 18 = .ok (.iaload, 1) := by decide +kernel
theorem dX5_allSpin_19 : decode cX5_allSpin 19 = .ok (.iadd, 1) := by decide +kernel
theorem dX5_allSpin_20 : decode cX5_allSpin 20 = .ok (.istore_n 1, 1) := by decide +kernel
theorem dX5_allSpin_21 : decode cX5_allSpin 21 = .ok (.iinc 2 1, 3) := by decide +kernel
theorem dX5_allSpin_24 : decode cX5_allSpin 24 = .ok (.goto (-20), 3) := by decide +kernel
theorem dX5_allSpin_27 : decode cX5_allSpin 27 = .ok (.iload_n 1, 1) := by decide +kernel
theorem dX5_allSpin_28 : decode cX5_allSpin 28 = .ok (.ireturn, 1) := by decide +kernel
theorem dX5_loss_0 : decode cX5_loss 0 = .ok (.aload_n 0, 1) := by decide +kernel
theorem dX5_loss_1 : decode cX5_loss 1 = .ok (.getfield 18, 3) := by decide +kernel
theorem dX5_loss_4 : decode cX5_loss 4 = .ok (.iload_n 1, 1) := by decide +kernel
theorem dX5_loss_5 : decode cX5_loss 5 = .ok (.iaload, 1) := by decide +kernel
theorem dX5_loss_6 : decode cX5_loss 6 = .ok (.ifCond .ne 5, 3) := by decide +kernel
theorem dX5_loss_9 : decode cX5_loss 9 = .ok (.iconst 0, 1) := by decide +kernel
theorem dX5_loss_10 : decode cX5_loss 10 = .ok (.ireturn, 1) := by decide +kernel
theorem dX5_loss_11 : decode cX5_loss 11 = .ok (.aload_n 0, 1) := by decide +kernel
theorem dX5_loss_12 : decode cX5_loss 12 = .ok (.getfield 9, 3) := by decide +kernel
theorem dX5_loss_15 : decode cX5_loss 15 = .ok (.iload_n 1, 1) := by decide +kernel
theorem dX5_loss_16 : decode cX5_loss 16 = .ok (.iaload, 1) := by decide +kernel
theorem dX5_loss_17 : decode cX5_loss 17 = .ok (.tableswitch 101 2 5 #[31, 57, 70, 78], 31) := by decide +kernel
theorem dX5_loss_48 : decode cX5_loss 48 = .ok (.aload_n 0, 1) := by decide +kernel
theorem dX5_loss_49 : decode cX5_loss 49 = .ok (.iload_n 1, 1) := by decide +kernel
theorem dX5_loss_50 : decode cX5_loss 50 = .ok (.invokevirtual 49, 3) := by decide +kernel
theorem dX5_loss_53 : decode cX5_loss 53 = .ok (.ifCond .eq 14, 3) := by decide +kernel
theorem dX5_loss_56 : decode cX5_loss 56 = .ok (.iconst 2, 1) := by decide +kernel
theorem dX5_loss_57 : decode cX5_loss 57 = .ok (.aload_n 0, 1) := by decide +kernel
theorem dX5_loss_58 : decode cX5_loss 58 = .ok (.getfield 15, 3) := by decide +kernel
theorem dX5_loss_61 : decode cX5_loss 61 = .ok (.iload_n 1, 1) := by decide +kernel
theorem dX5_loss_62 : decode cX5_loss 62 = .ok (.iaload, 1) := by decide +kernel
theorem dX5_loss_63 : decode cX5_loss 63 = .ok (.imul, 1) := by decide +kernel
theorem dX5_loss_64 : decode cX5_loss 64 = .ok (.goto 9, 3) := by decide +kernel
theorem dX5_loss_67 : decode cX5_loss 67 = .ok (.aload_n 0, 1) := by decide +kernel
theorem dX5_loss_68 : decode cX5_loss 68 = .ok (.getfield 15, 3) := by decide +kernel
theorem dX5_loss_71 : decode cX5_loss 71 = .ok (.iload_n 1, 1) := by decide +kernel
theorem dX5_loss_72 : decode cX5_loss 72 = .ok (.iaload, 1) := by decide +kernel
theorem dX5_loss_73 : decode cX5_loss 73 = .ok (.ireturn, 1) := by decide +kernel
theorem dX5_loss_74 : decode cX5_loss 74 = .ok (.iconst 1, 1) := by decide +kernel
theorem dX5_loss_75 : decode cX5_loss 75 = .ok (.aload_n 0, 1) := by decide +kernel
theorem dX5_loss_76 : decode cX5_loss 76 = .ok (.getfield 15, 3) := by decide +kernel
theorem dX5_loss_79 : decode cX5_loss 79 = .ok (.iload_n 1, 1) := by decide +kernel
theorem dX5_loss_80 : decode cX5_loss 80 = .ok (.iaload, 1) := by decide +kernel
theorem dX5_loss_81 : decode cX5_loss 81 = .ok (.iconst 2, 1) := by decide +kernel
theorem dX5_loss_82 : decode cX5_loss 82 = .ok (.idiv, 1) := by decide +kernel
theorem dX5_loss_83 : decode cX5_loss 83 = .ok (.invokestatic 53, 3) := by decide +kernel
theorem dX5_loss_86 : decode cX5_loss 86 = .ok (.ireturn, 1) := by decide +kernel
theorem dX5_loss_87 : decode cX5_loss 87 = .ok (.iconst 1, 1) := by decide +kernel
theorem dX5_loss_88 : decode cX5_loss 88 = .ok (.aload_n 0, 1) := by decide +kernel
theorem dX5_loss_89 : decode cX5_loss 89 = .ok (.iload_n 1, 1) := by decide +kernel
theorem dX5_loss_90 : decode cX5_loss 90 = .ok (.invokevirtual 56, 3) := by decide +kernel
theorem dX5_loss_93 : decode cX5_loss 93 = .ok (.iadd, 1) := by decide +kernel
theorem dX5_loss_94 : decode cX5_loss 94 = .ok (.ireturn, 1) := by decide +kernel
theorem dX5_loss_95 : decode cX5_loss 95 = .ok (.aload_n 0, 1) := by decide +kernel
theorem dX5_loss_96 : decode cX5_loss 96 = .ok (.getfield 18, 3) := by decide +kernel
theorem dX5_loss_99 : decode cX5_loss 99 = .ok (.iload_n 1, 1) := by decide +kernel
theorem dX5_loss_100 : decode cX5_loss 100 = .ok (.iaload, 1) := by decide +kernel
theorem dX5_loss_101 : decode cX5_loss 101 = .ok (.bipush 50, 2) := by decide +kernel
theorem dX5_loss_103 : decode cX5_loss 103 = .ok (.if_icmp .lt 7, 3) := by decide +kernel
theorem dX5_loss_106 : decode cX5_loss 106 = .ok (.iconst 0, 1) := by decide +kernel
theorem dX5_loss_107 : decode cX5_loss 107 = .ok (.goto 10, 3) := by decide +kernel
theorem dX5_loss_110 : decode cX5_loss 110 = .ok (.iconst 1, 1) := by decide +kernel
theorem dX5_loss_111 : decode cX5_loss 111 = .ok (.aload_n 0, 1) := by decide +kernel
theorem dX5_loss_112 : decode cX5_loss 112 = .ok (.iload_n 1, 1) := by decide +kernel
theorem dX5_loss_113 : decode cX5_loss 113 = .ok (.invokevirtual 56, 3) := by decide +kernel
theorem dX5_loss_116 : decode cX5_loss 116 = .ok (.iadd, 1) := by decide +kernel
theorem dX5_loss_117 : decode cX5_loss 117 = .ok (.ireturn, 1) := by decide +kernel
theorem dX5_loss_118 : decode cX5_loss 118 = .ok (.aload_n 0, 1) := by decide +kernel
theorem dX5_loss_119 : decode cX5_loss 119 = .ok (.getfield 15, 3) := by decide +kernel
theorem dX5_loss_122 : decode cX5_loss 122 = .ok (.iload_n 1, 1) := by decide +kernel
theorem dX5_loss_123 : decode cX5_loss 123 = .ok (.iaload, 1) := by decide +kernel
theorem dX5_loss_124 : decode cX5_loss 124 = .ok (.ireturn, 1) := by decide +kernel
theorem dX5_pass_0 : decode cX5_pass 0 = .ok (.aload_n 0, 1) := by decide +kernel
theorem dX5_pass_1 : decode cX5_pass 1 = .ok (.invokevirtual 60, 3) := by decide +kernel
theorem dX5_pass_4 : decode cX5_pass 4 = .ok (.istore_n 1, 1) := by decide +kernel
theorem dX5_pass_5 : decode cX5_pass 5 = .ok (.iconst 0, 1) := by decide +kernel
theorem dX5_pass_6 : decode cX5_pass 6 = .ok (.istore_n 2, 1) := by decide +kernel
theorem dX5_pass_7 : decode cX5_pass 7 = .ok (.iload_n 2, 1) := by decide +kernel
theorem dX5_pass_8 : decode cX5_pass 8 = .ok (.aload_n 0, 1) := by decide +kernel
theorem dX5_pass_9 : decode cX5_pass 9 = .ok (.getfield 21, 3) := by decide +kernel
theorem dX5_pass_12 : decode cX5_pass 12 = .ok (.if_icmp .ge 31, 3) := by decide +kernel
theorem dX5_pass_15 : decode cX5_pass 15 = .ok (.aload_n 0, 1) := by decide +kernel
theorem dX5_pass_16 : decode cX5_pass 16 = .ok (.getfield 18, 3) := by decide +kernel
theorem dX5_pass_19 : decode cX5_pass 19 = .ok (.iload_n 2, 1) := by decide +kernel
theorem dX5_pass_20 : decode cX5_pass 20 = .ok (.iconst 0, 1) := by decide +kernel
theorem dX5_pass_21 : decode cX5_pass 21 = .ok (.aload_n 0, 1) := by decide +kernel
theorem dX5_pass_22 : decode cX5_pass 22 = .ok (.getfield 18, 3) := by decide +kernel
theorem dX5_pass_25 : decode cX5_pass 25 = .ok (.iload_n 2, 1) := by decide +kernel
theorem dX5_pass_26 : decode cX5_pass 26 = .ok (.iaload, 1) := by decide +kernel
theorem dX5_pass_27 : decode cX5_pass 27 = .ok (.aload_n 0, 1) := by decide +kernel
theorem dX5_pass_28 : decode cX5_pass 28 = .ok (.iload_n 2, 1) := by decide +kernel
theorem dX5_pass_29 : decode cX5_pass 29 = .ok (.invokevirtual 64, 3) := by decide +kernel
theorem dX5_pass_32 : decode cX5_pass 32 = .ok (.isub, 1) := by decide +kernel
theorem dX5_pass_33 : decode cX5_pass 33 = .ok (.invokestatic 53, 3) := by decide +kernel
theorem dX5_pass_36 : decode cX5_pass 36 = .ok (.iastore, 1) := by decide +kernel
theorem dX5_pass_37 : decode cX5_pass 37 = .ok (.iinc 2 1, 3) := by decide +kernel
theorem dX5_pass_40 : decode cX5_pass 40 = .ok (.goto (-33), 3) := by decide +kernel
theorem dX5_pass_43 : decode cX5_pass 43 = .ok (.iconst 0, 1) := by decide +kernel
theorem dX5_pass_44 : decode cX5_pass 44 = .ok (.istore_n 2, 1) := by decide +kernel
theorem dX5_pass_45 : decode cX5_pass 45 = .ok (.iload_n 2, 1) := by decide +kernel
theorem dX5_pass_46 : decode cX5_pass 46 = .ok (.iconst 1, 1) := by decide +kernel
theorem dX5_pass_47 : decode cX5_pass 47 = .ok (.iadd, 1) := by decide +kernel
theorem dX5_pass_48 : decode cX5_pass 48 = .ok (.aload_n 0, 1) := by decide +kernel
theorem dX5_pass_49 : decode cX5_pass 49 = .ok (.getfield 21, 3) := by decide +kernel
theorem dX5_pass_52 : decode cX5_pass 52 = .ok (.if_icmp .ge 80, 3) := by decide +kernel
theorem dX5_pass_55 : decode cX5_pass 55 = .ok (.aload_n 0, 1) := by decide +kernel
theorem dX5_pass_56 : decode cX5_pass 56 = .ok (.getfield 40, 3) := by decide +kernel
theorem dX5_pass_59 : decode cX5_pass 59 = .ok (.iload_n 2, 1) := by decide +kernel
theorem dX5_pass_60 : decode cX5_pass 60 = .ok (.ishr, 1) := by decide +kernel
theorem dX5_pass_61 : decode cX5_pass 61 = .ok (.iconst 1, 1) := by decide +kernel
theorem dX5_pass_62 : decode cX5_pass 62 = .ok (.iand, 1) := by decide +kernel
theorem dX5_pass_63 : decode cX5_pass 63 = .ok (.ifCond .eq 63, 3) := by decide +kernel
theorem dX5_pass_66 : decode cX5_pass 66 = .ok (.aload_n 0, 1) := by decide +kernel
theorem dX5_pass_67 : decode cX5_pass 67 = .ok (.getfield 18, 3) := by decide +kernel
theorem dX5_pass_70 : decode cX5_pass 70 = .ok (.iload_n 2, 1) := by decide +kernel
theorem dX5_pass_71 : decode cX5_pass 71 = .ok (.iaload, 1) := by decide +kernel
theorem dX5_pass_72 : decode cX5_pass 72 = .ok (.ifCond .le 54, 3) := by decide +kernel
theorem dX5_pass_75 : decode cX5_pass 75 = .ok (.aload_n 0, 1) := by decide +kernel
theorem dX5_pass_76 : decode cX5_pass 76 = .ok (.getfield 18, 3) := by decide +kernel
theorem dX5_pass_79 : decode cX5_pass 79 = .ok (.iload_n 2, 1) := by decide +kernel
theorem dX5_pass_80 : decode cX5_pass 80 = .ok (.iconst 1, 1) := by decide +kernel
theorem dX5_pass_81 : decode cX5_pass 81 = .ok (.iadd, 1) := by decide +kernel
theorem dX5_pass_82 : decode cX5_pass 82 = .ok (.iaload, 1) := by decide +kernel
theorem dX5_pass_83 : decode cX5_pass 83 = .ok (.ifCond .le 43, 3) := by decide +kernel
theorem dX5_pass_86 : decode cX5_pass 86 = .ok (.aload_n 0, 1) := by decide +kernel
theorem dX5_pass_87 : decode cX5_pass 87 = .ok (.getfield 18, 3) := by decide +kernel
theorem dX5_pass_90 : decode cX5_pass 90 = .ok (.iload_n 2, 1) := by decide +kernel
theorem dX5_pass_91 : decode cX5_pass 91 = .ok (.iaload, 1) := by decide +kernel
theorem dX5_pass_92 : decode cX5_pass 92 = .ok (.aload_n 0, 1) := by decide +kernel
theorem dX5_pass_93 : decode cX5_pass 93 = .ok (.getfield 18, 3) := by decide +kernel
theorem dX5_pass_96 : decode cX5_pass 96 = .ok (.iload_n 2, 1) := by decide +kernel
theorem dX5_pass_97 : decode cX5_pass 97 = .ok (.iconst 1, 1) := by decide +kernel
theorem dX5_pass_98 : decode cX5_pass 98 = .ok (.iadd, 1) := by decide +kernel
theorem dX5_pass_99 : decode cX5_pass 99 = .ok (.iaload, 1) := by decide +kernel
theorem dX5_pass_100 : decode cX5_pass 100 = .ok (.isub, 1) := by decide +kernel
theorem dX5_pass_101 : decode cX5_pass 101 = .ok (.iconst 4, 1) := by decide +kernel
theorem dX5_pass_102 : decode cX5_pass 102 = .ok (.idiv, 1) := by decide +kernel
theorem dX5_pass_103 : decode cX5_pass 103 = .ok (.istore_n 3, 1) := by decide +kernel
theorem dX5_pass_104 : decode cX5_pass 104 = .ok (.aload_n 0, 1) := by decide +kernel
theorem dX5_pass_105 : decode cX5_pass 105 = .ok (.getfield 18, 3) := by decide +kernel
theorem dX5_pass_108 : decode cX5_pass 108 = .ok (.iload_n 2, 1) := by decide +kernel
theorem dX5_pass_109 : decode cX5_pass 109 = .ok (.dup2, 1) := by decide +kernel
theorem dX5_pass_110 : decode cX5_pass 110 = .ok (.iaload, 1) := by decide +kernel
theorem dX5_pass_111 : decode cX5_pass 111 = .ok (.iload_n 3, 1) := by decide +kernel
theorem dX5_pass_112 : decode cX5_pass 112 = .ok (.isub, 1) := by decide +kernel
theorem dX5_pass_113 : decode cX5_pass 113 = .ok (.iastore, 1) := by decide +kernel
theorem dX5_pass_114 : decode cX5_pass 114 = .ok (.aload_n 0, 1) := by decide +kernel
theorem dX5_pass_115 : decode cX5_pass 115 = .ok (.getfield 18, 3) := by decide +kernel
theorem dX5_pass_118 : decode cX5_pass 118 = .ok (.iload_n 2, 1) := by decide +kernel
theorem dX5_pass_119 : decode cX5_pass 119 = .ok (.iconst 1, 1) := by decide +kernel
theorem dX5_pass_120 : decode cX5_pass 120 = .ok (.iadd, 1) := by decide +kernel
theorem dX5_pass_121 : decode cX5_pass 121 = .ok (.dup2, 1) := by decide +kernel
theorem dX5_pass_122 : decode cX5_pass 122 = .ok (.iaload, 1) := by decide +kernel
theorem dX5_pass_123 : decode cX5_pass 123 = .ok (.iload_n 3, 1) := by decide +kernel
theorem dX5_pass_124 : decode cX5_pass 124 = .ok (.iadd, 1) := by decide +kernel
theorem dX5_pass_125 : decode cX5_pass 125 = .ok (.iastore, 1) := by decide +kernel
theorem dX5_pass_126 : decode cX5_pass 126 = .ok (.iinc 2 1, 3) := by decide +kernel
theorem dX5_pass_129 : decode cX5_pass 129 = .ok (.goto (-84), 3) := by decide +kernel
theorem dX5_pass_132 : decode cX5_pass 132 = .ok (.iconst 0, 1) := by decide +kernel
theorem dX5_pass_133 : decode cX5_pass 133 = .ok (.istore_n 2, 1) := by decide +kernel
theorem dX5_pass_134 : decode cX5_pass 134 = .ok (.iload_n 2, 1) := by decide +kernel
theorem dX5_pass_135 : decode cX5_pass 135 = .ok (.iconst 1, 1) := by decide +kernel
theorem dX5_pass_136 : decode cX5_pass 136 = .ok (.iadd, 1) := by decide +kernel
theorem dX5_pass_137 : decode cX5_pass 137 = .ok (.aload_n 0, 1) := by decide +kernel
theorem dX5_pass_138 : decode cX5_pass 138 = .ok (.getfield 21, 3) := by decide +kernel
theorem dX5_pass_141 : decode cX5_pass 141 = .ok (.if_icmp .ge 51, 3) := by decide +kernel
theorem dX5_pass_144 : decode cX5_pass 144 = .ok (.iload_n 1, 1) := by decide +kernel
theorem dX5_pass_145 : decode cX5_pass 145 = .ok (.iload_n 2, 1) := by decide +kernel
theorem dX5_pass_146 : decode cX5_pass 146 = .ok (.ishr, 1) := by decide +kernel
theorem dX5_pass_147 : decode cX5_pass 147 = .ok (.iconst 1, 1) := by decide +kernel
theorem dX5_pass_148 : decode cX5_pass 148 = .ok (.iand, 1) := by decide +kernel
theorem dX5_pass_149 : decode cX5_pass 149 = .ok (.ifCond .eq 37, 3) := by decide +kernel
theorem dX5_pass_152 : decode cX5_pass 152 = .ok (.aload_n 0, 1) := by decide +kernel
theorem dX5_pass_153 : decode cX5_pass 153 = .ok (.getfield 18, 3) := by decide +kernel
theorem dX5_pass_156 : decode cX5_pass 156 = .ok (.iload_n 2, 1) := by decide +kernel
theorem dX5_pass_157 : decode cX5_pass 157 = .ok (.iaload, 1) := by decide +kernel
theorem dX5_pass_158 : decode cX5_pass 158 = .ok (.ifCond .ne 28, 3) := by decide +kernel
theorem dX5_pass_161 : decode cX5_pass 161 = .ok (.aload_n 0, 1) := by decide +kernel
theorem dX5_pass_162 : decode cX5_pass 162 = .ok (.getfield 18, 3) := by decide +kernel
theorem dX5_pass_165 : decode cX5_pass 165 = .ok (.iload_n 2, 1) := by decide +kernel
theorem dX5_pass_166 : decode cX5_pass 166 = .ok (.iconst 1, 1) := by decide +kernel
theorem dX5_pass_167 : decode cX5_pass 167 = .ok (.iadd, 1) := by decide +kernel
theorem dX5_pass_168 : decode cX5_pass 168 = .ok (.iconst 0, 1) := by decide +kernel
theorem dX5_pass_169 : decode cX5_pass 169 = .ok (.aload_n 0, 1) := by decide +kernel
theorem dX5_pass_170 : decode cX5_pass 170 = .ok (.getfield 18, 3) := by decide +kernel
theorem dX5_pass_173 : decode cX5_pass 173 = .ok (.iload_n 2, 1) := by decide +kernel
theorem dX5_pass_174 : decode cX5_pass 174 = .ok (.iconst 1, 1) := by decide +kernel
theorem dX5_pass_175 : decode cX5_pass 175 = .ok (.iadd, 1) := by decide +kernel
theorem dX5_pass_176 : decode cX5_pass 176 = .ok (.iaload, 1) := by decide +kernel
theorem dX5_pass_177 : decode cX5_pass 177 = .ok (.aload_n 0, 1) := by decide +kernel
theorem dX5_pass_178 : decode cX5_pass 178 = .ok (.getfield 34, 3) := by decide +kernel
theorem dX5_pass_181 : decode cX5_pass 181 = .ok (.isub, 1) := by decide +kernel
theorem dX5_pass_182 : decode cX5_pass 182 = .ok (.invokestatic 53, 3) := by decide +kernel
theorem dX5_pass_185 : decode cX5_pass 185 = .ok (.iastore, 1) := by decide +kernel
theorem dX5_pass_186 : decode cX5_pass 186 = .ok (.iinc 2 1, 3) := by decide +kernel
theorem dX5_pass_189 : decode cX5_pass 189 = .ok (.goto (-55), 3) := by decide +kernel
theorem dX5_pass_192 : decode cX5_pass 192 = .ok (.aload_n 0, 1) := by decide +kernel
theorem dX5_pass_193 : decode cX5_pass 193 = .ok (.dup, 1) := by decide +kernel
theorem dX5_pass_194 : decode cX5_pass 194 = .ok (.getfield 37, 3) := by decide +kernel
theorem dX5_pass_197 : decode cX5_pass 197 = .ok (.iconst 1, 1) := by decide +kernel
theorem dX5_pass_198 : decode cX5_pass 198 = .ok (.iadd, 1) := by decide +kernel
theorem dX5_pass_199 : decode cX5_pass 199 = .ok (.putfield 37, 3) := by decide +kernel
theorem dX5_pass_202 : decode cX5_pass 202 = .ok (.return_, 1) := by decide +kernel
theorem dX5_passAll_0 : decode cX5_passAll 0 = .ok (.iconst 0, 1) := by decide +kernel
theorem dX5_passAll_1 : decode cX5_passAll 1 = .ok (.istore_n 2, 1) := by decide +kernel
theorem dX5_passAll_2 : decode cX5_passAll 2 = .ok (.iload_n 2, 1) := by decide +kernel
theorem dX5_passAll_3 : decode cX5_passAll 3 = .ok (.iload_n 1, 1) := by decide +kernel
theorem dX5_passAll_4 : decode cX5_passAll 4 = .ok (.if_icmp .ge 13, 3) := by decide +kernel
theorem dX5_passAll_7 : decode cX5_passAll 7 = .ok (.aload_n 0, 1) := by decide +kernel
theorem dX5_passAll_8 : decode cX5_passAll 8 = .ok (.invokevirtual 67, 3) := by decide +kernel
theorem dX5_passAll_11 : decode cX5_passAll 11 = .ok (.iinc 2 1, 3) := by decide +kernel
theorem dX5_passAll_14 : decode cX5_passAll 14 = .ok (.goto (-12), 3) := by decide +kernel
theorem dX5_passAll_17 : decode cX5_passAll 17 = .ok (.return_, 1) := by decide +kernel
theorem dX5_lacking_0 : decode cX5_lacking 0 = .ok (.aload_n 0, 1) := by decide +kernel
theorem dX5_lacking_1 : decode cX5_lacking 1 = .ok (.getfield 18, 3) := by decide +kernel
theorem dX5_lacking_4 : decode cX5_lacking 4 = .ok (.iload_n 1, 1) := by decide +kernel
theorem dX5_lacking_5 : decode cX5_lacking 5 = .ok (.iaload, 1) := by decide +kernel
theorem dX5_lacking_6 : decode cX5_lacking 6 = .ok (.ifCond .le 15, 3) := by decide +kernel
theorem dX5_lacking_9 : decode cX5_lacking 9 = .ok (.bipush 99, 2) := by decide +kernel
theorem dX5_lacking_11 : decode cX5_lacking 11 = .ok (.aload_n 0, 1) := by decide +kernel
theorem dX5_lacking_12 : decode cX5_lacking 12 = .ok (.getfield 18, 3) := by decide +kernel
theorem dX5_lacking_15 : decode cX5_lacking 15 = .ok (.iload_n 1, 1) := by decide +kernel
theorem dX5_lacking_16 : decode cX5_lacking 16 = .ok (.iaload, 1) := by decide +kernel
theorem dX5_lacking_17 : decode cX5_lacking 17 = .ok (.isub, 1) := by decide +kernel
theorem dX5_lacking_18 : decode cX5_lacking 18 = .ok (.goto 4, 3) := by decide +kernel
theorem dX5_lacking_21 : decode cX5_lacking 21 = .ok (.iconst 0, 1) := by decide +kernel
theorem dX5_lacking_22 : decode cX5_lacking 22 = .ok (.ireturn, 1) := by decide +kernel
theorem dX5_yards_0 : decode cX5_yards 0 = .ok (.iconst 0, 1) := by decide +kernel
theorem dX5_yards_1 : decode cX5_yards 1 = .ok (.istore_n 3, 1) := by decide +kernel
theorem dX5_yards_2 : decode cX5_yards 2 = .ok (.iconst 0, 1) := by decide +kernel
theorem dX5_yards_3 : decode cX5_yards 3 = .ok (.istore 4, 2) := by decide +kernel
theorem dX5_yards_5 : decode cX5_yards 5 = .ok (.iload 4, 2) := by decide +kernel
theorem dX5_yards_7 : decode cX5_yards 7 = .ok (.aload_n 0, 1) := by decide +kernel
theorem dX5_yards_8 : decode cX5_yards 8 = .ok (.getfield 21, 3) := by decide +kernel
theorem dX5_yards_11 : decode cX5_yards 11 = .ok (.if_icmp .ge 18, 3) := by decide +kernel
theorem dX5_yards_14 : decode cX5_yards 14 = .ok (.iload_n 3, 1) := by decide +kernel
theorem dX5_yards_15 : decode cX5_yards 15 = .ok (.aload_n 0, 1) := by decide +kernel
theorem dX5_yards_16 : decode cX5_yards 16 = .ok (.iload 4, 2) := by decide +kernel
theorem dX5_yards_18 : decode cX5_yards 18 = .ok (.invokevirtual 70, 3) := by decide +kernel
theorem dX5_yards_21 : decode cX5_yards 21 = .ok (.iadd, 1) := by decide +kernel
theorem dX5_yards_22 : decode cX5_yards 22 = .ok (.istore_n 3, 1) := by decide +kernel
theorem dX5_yards_23 : decode cX5_yards 23 = .ok (.iinc 4 1, 3) := by decide +kernel
theorem dX5_yards_26 : decode cX5_yards 26 = .ok (.goto (-21), 3) := by decide +kernel
theorem dX5_yards_29 : decode cX5_yards 29 = .ok (.iload_n 3, 1) := by decide +kernel
theorem dX5_yards_30 : decode cX5_yards 30 = .ok (.ifCond .ne 5, 3) := by decide +kernel
theorem dX5_yards_33 : decode cX5_yards 33 = .ok (.iconst 0, 1) := by decide +kernel
theorem dX5_yards_34 : decode cX5_yards 34 = .ok (.ireturn, 1) := by decide +kernel
theorem dX5_yards_35 : decode cX5_yards 35 = .ok (.iload_n 2, 1) := by decide +kernel
theorem dX5_yards_36 : decode cX5_yards 36 = .ok (.istore 4, 2) := by decide +kernel
theorem dX5_yards_38 : decode cX5_yards 38 = .ok (.iconst 0, 1) := by decide +kernel
theorem dX5_yards_39 : decode cX5_yards 39 = .ok (.istore 5, 2) := by decide +kernel
theorem dX5_yards_41 : decode cX5_yards 41 = .ok (.iconst 0, 1) := by decide +kernel
theorem dX5_yards_42 : decode cX5_yards 42 = .ok (.istore 6, 2) := by decide +kernel
theorem dX5_yards_44 : decode cX5_yards 44 = .ok (.iload 6, 2) := by decide +kernel
theorem dX5_yards_46 : decode cX5_yards 46 = .ok (.aload_n 0, 1) := by decide +kernel
theorem dX5_yards_47 : decode cX5_yards 47 = .ok (.getfield 21, 3) := by decide +kernel
theorem dX5_yards_50 : decode cX5_yards 50 = .ok (.if_icmp .ge 49, 3) := by decide +kernel
theorem dX5_yards_53 : decode cX5_yards 53 = .ok (.iload 4, 2) := by decide +kernel
theorem dX5_yards_55 : decode cX5_yards 55 = .ok (.iload_n 2, 1) := by decide +kernel
theorem dX5_yards_56 : decode cX5_yards 56 = .ok (.aload_n 0, 1) := by decide +kernel
theorem dX5_yards_57 : decode cX5_yards 57 = .ok (.iload 6, 2) := by decide +kernel
theorem dX5_yards_59 : decode cX5_yards 59 = .ok (.invokevirtual 70, 3) := by decide +kernel
theorem dX5_yards_62 : decode cX5_yards 62 = .ok (.imul, 1) := by decide +kernel
theorem dX5_yards_63 : decode cX5_yards 63 = .ok (.iload_n 3, 1) := by decide +kernel
theorem dX5_yards_64 : decode cX5_yards 64 = .ok (.idiv, 1) := by decide +kernel
theorem dX5_yards_65 : decode cX5_yards 65 = .ok (.isub, 1) := by decide +kernel
theorem dX5_yards_66 : decode cX5_yards 66 = .ok (.istore 4, 2) := by decide +kernel
theorem dX5_yards_68 : decode cX5_yards 68 = .ok (.iload 5, 2) := by decide +kernel
theorem dX5_yards_70 : decode cX5_yards 70 = .ok (.iload 6, 2) := by decide +kernel
theorem dX5_yards_72 : decode cX5_yards 72 = .ok (.iload_n 1, 1) := by decide +kernel
theorem dX5_yards_73 : decode cX5_yards 73 = .ok (.if_icmp .ge 16, 3) := by decide +kernel
theorem dX5_yards_76 : decode cX5_yards 76 = .ok (.aload_n 0, 1) := by decide +kernel
theorem dX5_yards_77 : decode cX5_yards 77 = .ok (.iload 6, 2) := by decide +kernel
theorem dX5_yards_79 : decode cX5_yards 79 = .ok (.invokevirtual 70, 3) := by decide +kernel
theorem dX5_yards_82 : decode cX5_yards 82 = .ok (.ifCond .le 7, 3) := by decide +kernel
theorem dX5_yards_85 : decode cX5_yards 85 = .ok (.iconst 1, 1) := by decide +kernel
theorem dX5_yards_86 : decode cX5_yards 86 = .ok (.goto 4, 3) := by decide +kernel
theorem dX5_yards_89 : decode cX5_yards 89 = .ok (.iconst 0, 1) := by decide +kernel
theorem dX5_yards_90 : decode cX5_yards 90 = .ok (.iadd, 1) := by decide +kernel
theorem dX5_yards_91 : decode cX5_yards 91 = .ok (.istore 5, 2) := by decide +kernel
theorem dX5_yards_93 : decode cX5_yards 93 = .ok (.iinc 6 1, 3) := by decide +kernel
theorem dX5_yards_96 : decode cX5_yards 96 = .ok (.goto (-52), 3) := by decide +kernel
theorem dX5_yards_99 : decode cX5_yards 99 = .ok (.aload_n 0, 1) := by decide +kernel
theorem dX5_yards_100 : decode cX5_yards 100 = .ok (.iload_n 1, 1) := by decide +kernel
theorem dX5_yards_101 : decode cX5_yards 101 = .ok (.invokevirtual 70, 3) := by decide +kernel
theorem dX5_yards_104 : decode cX5_yards 104 = .ok (.ifCond .le 14, 3) := by decide +kernel
theorem dX5_yards_107 : decode cX5_yards 107 = .ok (.iload 5, 2) := by decide +kernel
theorem dX5_yards_109 : decode cX5_yards 109 = .ok (.iload 4, 2) := by decide +kernel
theorem dX5_yards_111 : decode cX5_yards 111 = .ok (.if_icmp .ge 7, 3) := by decide +kernel
theorem dX5_yards_114 : decode cX5_yards 114 = .ok (.iconst 1, 1) := by decide +kernel
theorem dX5_yards_115 : decode cX5_yards 115 = .ok (.goto 4, 3) := by decide +kernel
theorem dX5_yards_118 : decode cX5_yards 118 = .ok (.iconst 0, 1) := by decide +kernel
theorem dX5_yards_119 : decode cX5_yards 119 = .ok (.istore 6, 2) := by decide +kernel
theorem dX5_yards_121 : decode cX5_yards 121 = .ok (.iload_n 2, 1) := by decide +kernel
theorem dX5_yards_122 : decode cX5_yards 122 = .ok (.aload_n 0, 1) := by decide +kernel
theorem dX5_yards_123 : decode cX5_yards 123 = .ok (.iload_n 1, 1) := by decide +kernel
theorem dX5_yards_124 : decode cX5_yards 124 = .ok (.invokevirtual 70, 3) := by decide +kernel
theorem dX5_yards_127 : decode cX5_yards 127 = .ok (.imul, 1) := by decide +kernel
theorem dX5_yards_128 : decode cX5_yards 128 = .ok (.iload_n 3, 1) := by decide +kernel
theorem dX5_yards_129 : decode cX5_yards 129 = .ok (.idiv, 1) := by decide +kernel
theorem dX5_yards_130 : decode cX5_yards 130 = .ok (.iload 6, 2) := by decide +kernel
theorem dX5_yards_132 : decode cX5_yards 132 = .ok (.iadd, 1) := by decide +kernel
theorem dX5_yards_133 : decode cX5_yards 133 = .ok (.ireturn, 1) := by decide +kernel
theorem dX6_init_0 : decode cX6_init 0 = .ok (.aload_n 0, 1) := by decide +kernel
theorem dX6_init_1 : decode cX6_init 1 = .ok (.invokespecial 3, 3) := by decide +kernel
theorem dX6_init_4 : decode cX6_init 4 = .ok (.aload_n 0, 1) := by decide +kernel
theorem dX6_init_5 : decode cX6_init 5 = .ok (.new 9, 3) := by decide +kernel
theorem dX6_init_8 : decode cX6_init 8 = .ok (.dup, 1) := by decide +kernel
theorem dX6_init_9 : decode cX6_init 9 = .ok (.invokespecial 11, 3) := by decide +kernel
theorem dX6_init_12 : decode cX6_init 12 = .ok (.putfield 12, 3) := by decide +kernel
theorem dX6_init_15 : decode cX6_init 15 = .ok (.aload_n 0, 1) := by decide +kernel
theorem dX6_init_16 : decode cX6_init 16 = .ok (.bipush 100, 2) := by decide +kernel
theorem dX6_init_18 : decode cX6_init 18 = .ok (.newarray .int, 2) := by decide +kernel
theorem dX6_init_20 : decode cX6_init 20 = .ok (.putfield 18, 3) := by decide +kernel
theorem dX6_init_23 : decode cX6_init 23 = .ok (.return_, 1) := by decide +kernel
theorem dX6_add_0 : decode cX6_add 0 = .ok (.aload_n 0, 1) := by decide +kernel
theorem dX6_add_1 : decode cX6_add 1 = .ok (.getfield 18, 3) := by decide +kernel
theorem dX6_add_4 : decode cX6_add 4 = .ok (.aload_n 0, 1) := by decide +kernel
theorem dX6_add_5 : decode cX6_add 5 = .ok (.getfield 22, 3) := by decide +kernel
theorem dX6_add_8 : decode cX6_add 8 = .ok (.iload_n 1, 1) := by decide +kernel
theorem dX6_add_9 : decode cX6_add 9 = .ok (.iastore, 1) := by decide +kernel
theorem dX6_add_10 : decode cX6_add 10 = .ok (.aload_n 0, 1) := by decide +kernel
theorem dX6_add_11 : decode cX6_add 11 = .ok (.dup, 1) := by decide +kernel
theorem dX6_add_12 : decode cX6_add 12 = .ok (.getfield 22, 3) := by decide +kernel
theorem dX6_add_15 : decode cX6_add 15 = .ok (.iconst 1, 1) := by decide +kernel
theorem dX6_add_16 : decode cX6_add 16 = .ok (.iadd, 1) := by decide +kernel
theorem dX6_add_17 : decode cX6_add 17 = .ok (.putfield 22, 3) := by decide +kernel
theorem dX6_add_20 : decode cX6_add 20 = .ok (.aload_n 0, 1) := by decide +kernel
theorem dX6_add_21 : decode cX6_add 21 = .ok (.getfield 22, 3) := by decide +kernel
theorem dX6_add_24 : decode cX6_add 24 = .ok (.ireturn, 1) := by decide +kernel
theorem dX6_read_0 : decode cX6_read 0 = .ok (.aload_n 0, 1) := by decide +kernel
theorem dX6_read_1 : decode cX6_read 1 = .ok (.iconst 0, 1) := by decide +kernel
theorem dX6_read_2 : decode cX6_read 2 = .ok (.putfield 26, 3) := by decide +kernel
theorem dX6_read_5 : decode cX6_read 5 = .ok (.aload_n 0, 1) := by decide +kernel
theorem dX6_read_6 : decode cX6_read 6 = .ok (.iconst 0, 1) := by decide +kernel
theorem dX6_read_7 : decode cX6_read 7 = .ok (.putfield 29, 3) := by decide +kernel
theorem dX6_read_10 : decode cX6_read 10 = .ok (.aload_n 0, 1) := by decide +kernel
theorem dX6_read_11 : decode cX6_read 11 = .ok (.getfield 12, 3) := by decide +kernel
theorem dX6_read_14 : decode cX6_read 14 = .ok (.iconst 0, 1) := by decide +kernel
theorem dX6_read_15 : decode cX6_read 15 = .ok (.putfield 32, 3) := by decide +kernel
theorem dX6_read_18 : decode cX6_read 18 = .ok (.aload_n 0, 1) := by decide +kernel
theorem dX6_read_19 : decode cX6_read 19 = .ok (.bipush 116, 2) := by decide +kernel
theorem dX6_read_21 : decode cX6_read 21 = .ok (.invokevirtual 35, 3) := by decide +kernel
theorem dX6_read_24 : decode cX6_read 24 = .ok (.aload_n 0, 1) := by decide +kernel
theorem dX6_read_25 : decode cX6_read 25 = .ok (.getfield 12, 3) := by decide +kernel
theorem dX6_read_28 : decode cX6_read 28 = .ok (.aload_n 0, 1) := by decide +kernel
theorem dX6_read_29 : decode cX6_read 29 = .ok (.iconst 1, 1) := by decide +kernel
theorem dX6_read_30 : decode cX6_read 30 = .ok (.bipush 30, 2) := by decide +kernel
theorem dX6_read_32 : decode cX6_read 32 = .ok (.invokevirtual 39, 3) := by decide +kernel
theorem dX6_read_35 : decode cX6_read 35 = .ok (.putfield 43, 3) := by decide +kernel
theorem dX6_read_38 : decode cX6_read 38 = .ok (.aload_n 0, 1) := by decide +kernel
theorem dX6_read_39 : decode cX6_read 39 = .ok (.bipush 44, 2) := by decide +kernel
theorem dX6_read_41 : decode cX6_read 41 = .ok (.invokevirtual 35, 3) := by decide +kernel
theorem dX6_read_44 : decode cX6_read 44 = .ok (.aload_n 0, 1) := by decide +kernel
theorem dX6_read_45 : decode cX6_read 45 = .ok (.getfield 12, 3) := by decide +kernel
theorem dX6_read_48 : decode cX6_read 48 = .ok (.aload_n 0, 1) := by decide +kernel
theorem dX6_read_49 : decode cX6_read 49 = .ok (.iconst 0, 1) := by decide +kernel
theorem dX6_read_50 : decode cX6_read 50 = .ok (.bipush 40, 2) := by decide +kernel
theorem dX6_read_52 : decode cX6_read 52 = .ok (.invokevirtual 39, 3) := by decide +kernel
theorem dX6_read_55 : decode cX6_read 55 = .ok (.putfield 46, 3) := by decide +kernel
theorem dX6_read_58 : decode cX6_read 58 = .ok (.aload_n 0, 1) := by decide +kernel
theorem dX6_read_59 : decode cX6_read 59 = .ok (.bipush 59, 2) := by decide +kernel
theorem dX6_read_61 : decode cX6_read 61 = .ok (.invokevirtual 35, 3) := by decide +kernel
theorem dX6_read_64 : decode cX6_read 64 = .ok (.aload_n 0, 1) := by decide +kernel
theorem dX6_read_65 : decode cX6_read 65 = .ok (.invokevirtual 49, 3) := by decide +kernel
theorem dX6_read_68 : decode cX6_read 68 = .ok (.iconst 1, 1) := by decide +kernel
theorem dX6_read_69 : decode cX6_read 69 = .ok (.istore_n 1, 1) := by decide +kernel
theorem dX6_read_70 : decode cX6_read 70 = .ok (.iload_n 1, 1) := by decide +kernel
theorem dX6_read_71 : decode cX6_read 71 = .ok (.bipush 8, 2) := by decide +kernel
theorem dX6_read_73 : decode cX6_read 73 = .ok (.if_icmp .gt 31, 3) := by decide +kernel
theorem dX6_read_76 : decode cX6_read 76 = .ok (.aload_n 0, 1) := by decide +kernel
theorem dX6_read_77 : decode cX6_read 77 = .ok (.getfield 29, 3) := by decide +kernel
theorem dX6_read_80 : decode cX6_read 80 = .ok (.ifCond .ne 24, 3) := by decide +kernel
theorem dX6_read_83 : decode cX6_read 83 = .ok (.aload_n 0, 1) := by decide +kernel
theorem dX6_read_84 : decode cX6_read 84 = .ok (.getfield 26, 3) := by decide +kernel
theorem dX6_read_87 : decode cX6_read 87 = .ok (.aload_n 0, 1) := by decide +kernel
theorem dX6_read_88 : decode cX6_read 88 = .ok (.getfield 22, 3) := by decide +kernel
theorem dX6_read_91 : decode cX6_read 91 = .ok (.if_icmp .ge 13, 3) := by decide +kernel
theorem dX6_read_94 : decode cX6_read 94 = .ok (.aload_n 0, 1) := by decide +kernel
theorem dX6_read_95 : decode cX6_read 95 = .ok (.invokevirtual 49, 3) := by decide +kernel
theorem dX6_read_98 : decode cX6_read 98 = .ok (.iinc 1 1, 3) := by decide +kernel
theorem dX6_read_101 : decode cX6_read 101 = .ok (.goto (-31), 3) := by decide +kernel
theorem dX6_read_104 : decode cX6_read 104 = .ok (.return_, 1) := by decide +kernel
theorem dX6_readHouse_0 : decode cX6_readHouse 0 = .ok (.aload_n 0, 1) := by decide +kernel
theorem dX6_readHouse_1 : decode cX6_readHouse 1 = .ok (.invokevirtual 52, 3) := by decide +kernel
theorem dX6_readHouse_4 : decode cX6_readHouse 4 = .ok (.istore_n 1, 1) := by decide +kernel
theorem dX6_readHouse_5 : decode cX6_readHouse 5 = .ok (.aload_n 0, 1) := by decide +kernel
theorem dX6_readHouse_6 : decode cX6_readHouse 6 = .ok (.iconst 0, 1) := by decide +kernel
theorem dX6_readHouse_7 : decode cX6_readHouse 7 = .ok (.bipush 99, 2) := by decide +kernel
theorem dX6_readHouse_9 : decode cX6_readHouse 9 = .ok (.invokevirtual 39, 3) := by decide +kernel
theorem dX6_readHouse_12 : decode cX6_readHouse 12 = .ok (.istore_n 2, 1) := by decide +kernel
theorem dX6_readHouse_13 : decode cX6_readHouse 13 = .ok (.aload_n 0, 1) := by decide +kernel
theorem dX6_readHouse_14 : decode cX6_readHouse 14 = .ok (.bipush 44, 2) := by decide +kernel
theorem dX6_readHouse_16 : decode cX6_readHouse 16 = .ok (.invokevirtual 35, 3) := by decide +kernel
theorem dX6_readHouse_19 : decode cX6_readHouse 19 = .ok (.aload_n 0, 1) := by decide +kernel
theorem dX6_readHouse_20 : decode cX6_readHouse 20 = .ok (.iconst 1, 1) := by decide +kernel
theorem dX6_readHouse_21 : decode cX6_readHouse 21 = .ok (.bipush 9, 2) := by decide +kernel
theorem dX6_readHouse_23 : decode cX6_readHouse 23 = .ok (.invokevirtual 39, 3) := by decide +kernel
theorem dX6_readHouse_26 : decode cX6_readHouse 26 = .ok (.istore_n 3, 1) := by decide +kernel
theorem dX6_readHouse_27 : decode cX6_readHouse 27 = .ok (.aload_n 0, 1) := by decide +kernel
theorem dX6_readHouse_28 : decode cX6_readHouse 28 = .ok (.bipush 59, 2) := by decide +kernel
theorem dX6_readHouse_30 : decode cX6_readHouse 30 = .ok (.invokevirtual 35, 3) := by decide +kernel
theorem dX6_readHouse_33 : decode cX6_readHouse 33 = .ok (.aload_n 0, 1) := by decide +kernel
theorem dX6_readHouse_34 : decode cX6_readHouse 34 = .ok (.getfield 29, 3) := by decide +kernel
theorem dX6_readHouse_37 : decode cX6_readHouse 37 = .ok (.ifCond .ne 13, 3) := by decide +kernel
theorem dX6_readHouse_40 : decode cX6_readHouse 40 = .ok (.aload_n 0, 1) := by decide +kernel
theorem dX6_readHouse_41 : decode cX6_readHouse 41 = .ok (.getfield 12, 3) := by decide +kernel
theorem dX6_readHouse_44 : decode cX6_readHouse 44 = .ok (.iload_n 1, 1) := by decide +kernel
theorem dX6_readHouse_45 : decode cX6_readHouse 45 = .ok (.iload_n 2, 1) := by decide +kernel
theorem dX6_readHouse_46 : decode cX6_readHouse 46 = .ok (.iload_n 3, 1) := by decide +kernel
theorem dX6_readHouse_47 : decode cX6_readHouse 47 = .ok (.invokevirtual 56, 3) := by decide +kernel
theorem dX6_readHouse_50 : decode cX6_readHouse 50 = .ok (.return_, 1) := by decide +kernel
theorem dX6_readSort_0 : decode cX6_readSort 0 = .ok (.aload_n 0, 1) := by decide +kernel
theorem dX6_readSort_1 : decode cX6_readSort 1 = .ok (.getfield 26, 3) := by decide +kernel
theorem dX6_readSort_4 : decode cX6_readSort 4 = .ok (.aload_n 0, 1) := by decide +kernel
theorem dX6_readSort_5 : decode cX6_readSort 5 = .ok (.getfield 22, 3) := by decide +kernel
theorem dX6_readSort_8 : decode cX6_readSort 8 = .ok (.if_icmp .ge 23, 3) := by decide +kernel
theorem dX6_readSort_11 : decode cX6_readSort 11 = .ok (.ldc 60, 2) := by decide +kernel
theorem dX6_readSort_13 : decode cX6_readSort 13 = .ok (.aload_n 0, 1) := by decide +kernel
theorem dX6_readSort_14 : decode cX6_readSort 14 = .ok (.getfield 18, 3) := by decide +kernel
theorem dX6_readSort_17 : decode cX6_readSort 17 = .ok (.aload_n 0, 1) := by decide +kernel
theorem dX6_readSort_18 : decode cX6_readSort 18 = .ok (.getfield 26, 3) := by decide +kernel
theorem dX6_readSort_21 : decode cX6_readSort 21 = .ok (.iaload, 1) := by decide +kernel
theorem dX6_readSort_22 : decode cX6_readSort 22 = .ok (.i2c, 1) := by decide +kernel
theorem dX6_readSort_23 : decode cX6_readSort 23 = .ok (.invokevirtual 62, 3) := by decide +kernel
theorem dX6_readSort_26 : decode cX6_readSort 26 = .ok (.iconst 1, 1) := by decide +kernel
theorem dX6_readSort_27 : decode cX6_readSort 27 = .ok (.iadd, 1) := by decide +kernel
theorem dX6_readSort_28 : decode cX6_readSort 28 = .ok (.goto 4, 3) := by decide +kernel
theorem dX6_readSort_31 : decode cX6_readSort 31 = .ok (.iconst 0, 1) := by decide +kernel
theorem dX6_readSort_32 : decode cX6_readSort 32 = .ok (.istore_n 1, 1) := by decide +kernel
theorem dX6_readSort_33 : decode cX6_readSort 33 = .ok (.aload_n 0, 1) := by decide +kernel
theorem dX6_readSort_34 : decode cX6_readSort 34 = .ok (.getfield 29, 3) := by decide +kernel
theorem dX6_readSort_37 : decode cX6_readSort 37 = .ok (.ifCond .ne 24, 3) := by decide +kernel
theorem dX6_readSort_40 : decode cX6_readSort 40 = .ok (.iload_n 1, 1) := by decide +kernel
theorem dX6_readSort_41 : decode cX6_readSort 41 = .ok (.ifCond .le 20, 3) := by decide +kernel
theorem dX6_readSort_44 : decode cX6_readSort 44 = .ok (.aload_n 0, 1) := by decide +kernel
theorem dX6_readSort_45 : decode cX6_readSort 45 = .ok (.getfield 12, 3) := by decide +kernel
theorem dX6_readSort_48 : decode cX6_readSort 48 = .ok (.getfield 32, 3) := by decide +kernel
theorem dX6_readSort_51 : decode cX6_readSort 51 = .ok (.bipush 8, 2) := by decide +kernel
theorem dX6_readSort_53 : decode cX6_readSort 53 = .ok (.if_icmp .lt 8, 3) := by decide +kernel
theorem dX6_readSort_56 : decode cX6_readSort 56 = .ok (.aload_n 0, 1) := by decide +kernel
theorem dX6_readSort_57 : decode cX6_readSort 57 = .ok (.iconst 3, 1) := by decide +kernel
theorem dX6_readSort_58 : decode cX6_readSort 58 = .ok (.putfield 29, 3) := by decide +kernel
theorem dX6_readSort_61 : decode cX6_readSort 61 = .ok (.aload_n 0, 1) := by decide +kernel
theorem dX6_readSort_62 : decode cX6_readSort 62 = .ok (.iload_n 1, 1) := by decide +kernel
theorem dX6_readSort_63 : decode cX6_readSort 63 = .ok (.ifCond .le 7, 3) := by decide +kernel
theorem dX6_readSort_66 : decode cX6_readSort 66 = .ok (.iconst 1, 1) := by decide +kernel
theorem dX6_readSort_67 : decode cX6_readSort 67 = .ok (.goto 4, 3) := by decide +kernel
theorem dX6_readSort_70 : decode cX6_readSort 70 = .ok (.iconst 0, 1) := by decide +kernel
theorem dX6_readSort_71 : decode cX6_readSort 71 = .ok (.invokevirtual 68, 3) := by decide +kernel
theorem dX6_readSort_74 : decode cX6_readSort 74 = .ok (.iload_n 1, 1) := by decide +kernel
theorem dX6_readSort_75 : decode cX6_readSort 75 = .ok (.ireturn, 1) := by decide +kernel
theorem dX6_readSign_0 : decode cX6_readSign 0 = .ok (.aload_n 0, 1) := by decide +kernel
theorem dX6_readSign_1 : decode cX6_readSign 1 = .ok (.aload_n 0, 1) := by decide +kernel
theorem dX6_readSign_2 : decode cX6_readSign 2 = .ok (.getfield 26, 3) := by decide +kernel
theorem dX6_readSign_5 : decode cX6_readSign 5 = .ok (.aload_n 0, 1) := by decide +kernel
theorem dX6_readSign_6 : decode cX6_readSign 6 = .ok (.getfield 22, 3) := by decide +kernel
theorem dX6_readSign_9 : decode cX6_readSign 9 = .ok (.if_icmp .ge 20, 3) := by decide +kernel
theorem dX6_readSign_12 : decode cX6_readSign 12 = .ok (.aload_n 0, 1) := by decide +kernel
theorem dX6_readSign_13 : decode cX6_readSign 13 = .ok (.getfield 18, 3) := by decide +kernel
theorem dX6_readSign_16 : decode cX6_readSign 16 = .ok (.aload_n 0, 1) := by decide +kernel
theorem dX6_readSign_17 : decode cX6_readSign 17 = .ok (.getfield 26, 3) := by decide +kernel
theorem dX6_readSign_20 : decode cX6_readSign 20 = .ok (.iaload, 1) := by decide +kernel
theorem dX6_readSign_21 : decode cX6_readSign 21 = .ok (.iload_n 1, 1) := by decide +kernel
theorem dX6_readSign_22 : decode cX6_readSign 22 = .ok (.if_icmp .ne 7, 3) := by decide +kernel
theorem dX6_readSign_25 : decode cX6_readSign 25 = .ok (.iconst 1, 1) := by decide +kernel
theorem dX6_readSign_26 : decode cX6_readSign 26 = .ok (.goto 4, 3) := by decide +kernel
theorem dX6_readSign_29 : decode cX6_readSign 29 = .ok (.iconst 0, 1) := by decide +kernel
theorem dX6_readSign_30 : decode cX6_readSign 30 = .ok (.invokevirtual 68, 3) := by decide +kernel
theorem dX6_readSign_33 : decode cX6_readSign 33 = .ok (.return_, 1) := by decide +kernel
theorem dX6_step_0 : decode cX6_step 0 = .ok (.aload_n 0, 1) := by decide +kernel
theorem dX6_step_1 : decode cX6_step 1 = .ok (.getfield 29, 3) := by decide +kernel
theorem dX6_step_4 : decode cX6_step 4 = .ok (.ifCond .eq 4, 3) := by decide +kernel
theorem dX6_step_7 : decode cX6_step 7 = .ok (.return_, 1) := by decide +kernel
theorem dX6_step_8 : decode cX6_step 8 = .ok (.iload_n 1, 1) := by decide +kernel
theorem dX6_step_9 : decode cX6_step 9 = .ok (.ifCond .eq 16, 3) := by decide +kernel
theorem dX6_step_12 : decode cX6_step 12 = .ok (.aload_n 0, 1) := by decide +kernel
theorem dX6_step_13 : decode cX6_step 13 = .ok (.dup, 1) := by decide +kernel
theorem dX6_step_14 : decode cX6_step 14 = .ok (.getfield 26, 3) := by decide +kernel
theorem dX6_step_17 : decode cX6_step 17 = .ok (.iconst 1, 1) := by decide +kernel
theorem dX6_step_18 : decode cX6_step 18 = .ok (.iadd, 1) := by decide +kernel
theorem dX6_step_19 : decode cX6_step 19 = .ok (.putfield 26, 3) := by decide +kernel
theorem dX6_step_22 : decode cX6_step 22 = .ok (.goto 8, 3) := by decide +kernel
theorem dX6_step_25 : decode cX6_step 25 = .ok (.aload_n 0, 1) := by decide +kernel
theorem dX6_step_26 : decode cX6_step 26 = .ok (.iconst 1, 1) := by decide +kernel
theorem dX6_step_27 : decode cX6_step 27 = .ok (.putfield 29, 3) := by decide +kernel
theorem dX6_step_30 : decode cX6_step 30 = .ok (.return_, 1) := by decide +kernel
theorem dX6_readNumber_0 : decode cX6_readNumber 0 = .ok (.aload_n 0, 1) := by decide +kernel
theorem dX6_readNumber_1 : decode cX6_readNumber 1 = .ok (.getfield 29, 3) := by decide +kernel
theorem dX6_readNumber_4 : decode cX6_readNumber 4 = .ok (.ifCond .eq 5, 3) := by decide +kernel
theorem dX6_readNumber_7 : decode cX6_readNumber 7 = .ok (.iload_n 1, 1) := by decide +kernel
theorem dX6_readNumber_8 : decode cX6_readNumber 8 = .ok (.ireturn, 1) := by decide +kernel
theorem dX6_readNumber_9 : decode cX6_readNumber 9 = .ok (.iconst 0, 1) := by decide +kernel
theorem dX6_readNumber_10 : decode cX6_readNumber 10 = .ok (.istore_n 3, 1) := by decide +kernel
theorem dX6_readNumber_11 : decode cX6_readNumber 11 = .ok (.iconst 0, 1) := by decide +kernel
theorem dX6_readNumber_12 : decode cX6_readNumber 12 = .ok (.istore 4, 2) := by decide +kernel
theorem dX6_readNumber_14 : decode cX6_readNumber 14 = .ok (.aload_n 0, 1) := by decide +kernel
theorem dX6_readNumber_15 : decode cX6_readNumber 15 = .ok (.getfield 26, 3) := by decide +kernel
theorem dX6_readNumber_18 : decode cX6_readNumber 18 = .ok (.istore 5, 2) := by decide +kernel
theorem dX6_readNumber_20 : decode cX6_readNumber 20 = .ok (.iload 5, 2) := by decide +kernel
theorem dX6_readNumber_22 : decode cX6_readNumber 22 = .ok (.aload_n 0, 1) := by decide +kernel
theorem dX6_readNumber_23 : decode cX6_readNumber 23 = .ok (.getfield 22, 3) := by decide +kernel
theorem dX6_readNumber_26 : decode cX6_readNumber 26 = .ok (.if_icmp .ge 52, 3) := by decide +kernel
theorem dX6_readNumber_29 : decode cX6_readNumber 29 = .ok (.iload_n 3, 1) := by decide +kernel
theorem dX6_readNumber_30 : decode cX6_readNumber 30 = .ok (.iconst 3, 1) := by decide +kernel
theorem dX6_readNumber_31 : decode cX6_readNumber 31 = .ok (.if_icmp .ge 47, 3) := by decide +kernel
theorem dX6_readNumber_34 : decode cX6_readNumber 34 = .ok (.aload_n 0, 1) := by decide +kernel
theorem dX6_readNumber_35 : decode cX6_readNumber 35 = .ok (.getfield 18, 3) := by decide +kernel
theorem dX6_readNumber_38 : decode cX6_readNumber 38 = .ok (.iload 5, 2) := by decide +kernel
theorem dX6_readNumber_40 : decode cX6_readNumber 40 = .ok (.iaload, 1) := by decide +kernel
theorem dX6_readNumber_41 : decode cX6_readNumber 41 = .ok (.bipush 48, 2) := by decide +kernel
theorem dX6_readNumber_43 : decode cX6_readNumber 43 = .ok (.bipush 57, 2) := by decide +kernel
theorem dX6_readNumber_45 : decode cX6_readNumber 45 = .ok (.invokestatic 72, 3) := by decide +kernel
theorem dX6_readNumber_48 : decode cX6_readNumber 48 = .ok (.ifCond .eq 30, 3) := by decide +kernel
theorem dX6_readNumber_51 : decode cX6_readNumber 51 = .ok (.bipush 10, 2) := by decide +kernel
theorem dX6_readNumber_53 : decode cX6_readNumber 53 = .ok (.iload 4, 2) := by decide +kernel
theorem dX6_readNumber_55 : decode cX6_readNumber 55 = .ok (.imul, 1) := by decide +kernel
theorem dX6_readNumber_56 : decode cX6_readNumber 56 = .ok (.aload_n 0, 1) := by decide +kernel
theorem dX6_readNumber_57 : decode cX6_readNumber 57 = .ok (.getfield 18, 3) := by decide +kernel
theorem dX6_readNumber_60 : decode cX6_readNumber 60 = .ok (.iload 5, 2) := by decide +kernel
theorem dX6_readNumber_62 : decode cX6_readNumber 62 = .ok (.iaload, 1) := by decide +kernel
theorem dX6_readNumber_63 : decode cX6_readNumber 63 = .ok (.iadd, 1) := by decide +kernel
theorem dX6_readNumber_64 : decode cX6_readNumber 64 = .ok (.bipush 48, 2) := by decide +kernel
theorem dX6_readNumber_66 : decode cX6_readNumber 66 = .ok (.isub, 1) := by decide +kernel
theorem dX6_readNumber_67 : decode cX6_readNumber 67 = .ok (.istore 4, 2) := by decide +kernel
theorem dX6_readNumber_69 : decode cX6_readNumber 69 = .ok (.iinc 3 1, 3) := by decide +kernel
theorem dX6_readNumber_72 : decode cX6_readNumber 72 = .ok (.iinc 5 1, 3) := by decide +kernel
theorem dX6_readNumber_75 : decode cX6_readNumber 75 = .ok (.goto (-55), 3) := by decide +kernel
theorem dX6_readNumber_78 : decode cX6_readNumber 78 = .ok (.iload_n 3, 1) := by decide +kernel
theorem dX6_readNumber_79 : decode cX6_readNumber 79 = .ok (.iconst 1, 1) := by decide +kernel
theorem dX6_readNumber_80 : decode cX6_readNumber 80 = .ok (.iconst 2, 1) := by decide +kernel
theorem dX6_readNumber_81 : decode cX6_readNumber 81 = .ok (.invokestatic 72, 3) := by decide +kernel
theorem dX6_readNumber_84 : decode cX6_readNumber 84 = .ok (.ifCond .ne 11, 3) := by decide +kernel
theorem dX6_readNumber_87 : decode cX6_readNumber 87 = .ok (.aload_n 0, 1) := by decide +kernel
theorem dX6_readNumber_88 : decode cX6_readNumber 88 = .ok (.iconst 1, 1) := by decide +kernel
theorem dX6_readNumber_89 : decode cX6_readNumber 89 = .ok (.putfield 29, 3) := by decide +kernel
theorem dX6_readNumber_92 : decode cX6_readNumber 92 = .ok (.goto 31, 3) := by decide +kernel
theorem dX6_readNumber_95 : decode cX6_readNumber 95 = .ok (.iload 4, 2) := by decide +kernel
theorem dX6_readNumber_97 : decode cX6_readNumber 97 = .ok (.iload_n 1, 1) := by decide +kernel
theorem dX6_readNumber_98 : decode cX6_readNumber 98 = .ok (.iload_n 2, 1) := by decide +kernel
theorem dX6_readNumber_99 : decode cX6_readNumber 99 = .ok (.invokestatic 72, 3) := by decide +kernel
theorem dX6_readNumber_102 : decode cX6_readNumber 102 = .ok (.ifCond .ne 11, 3) := by decide +kernel
theorem dX6_readNumber_105 : decode cX6_readNumber 105 = .ok (.aload_n 0, 1) := by decide +kernel
theorem dX6_readNumber_106 : decode cX6_readNumber 106 = .ok (.iconst 2, 1) := by decide +kernel
theorem dX6_readNumber_107 : decode cX6_readNumber 107 = .ok (.putfield 29, 3) := by decide +kernel
theorem dX6_readNumber_110 : decode cX6_readNumber 110 = .ok (.goto 13, 3) := by decide +kernel
theorem dX6_readNumber_113 : decode cX6_readNumber 113 = .ok (.aload_n 0, 1) := by decide +kernel
theorem dX6_readNumber_114 : decode cX6_readNumber 114 = .ok (.dup, 1) := by decide +kernel
theorem dX6_readNumber_115 : decode cX6_readNumber 115 = .ok (.getfield 26, 3) := by decide +kernel
theorem dX6_readNumber_118 : decode cX6_readNumber 118 = .ok (.iload_n 3, 1) := by decide +kernel
theorem dX6_readNumber_119 : decode cX6_readNumber 119 = .ok (.iadd, 1) := by decide +kernel
theorem dX6_readNumber_120 : decode cX6_readNumber 120 = .ok (.putfield 26, 3) := by decide +kernel
theorem dX6_readNumber_123 : decode cX6_readNumber 123 = .ok (.iload 4, 2) := by decide +kernel
theorem dX6_readNumber_125 : decode cX6_readNumber 125 = .ok (.ireturn, 1) := by decide +kernel
theorem dX7_init_0 : decode cX7_init 0 = .ok (.aload_n 0, 1) := by decide +kernel
theorem dX7_init_1 : decode cX7_init 1 = .ok (.invokespecial 1, 3) := by decide +kernel
theorem dX7_init_4 : decode cX7_init 4 = .ok (.aload_n 0, 1) := by decide +kernel
theorem dX7_init_5 : decode cX7_init 5 = .ok (.bipush 8, 2) := by decide +kernel
theorem dX7_init_7 : decode cX7_init 7 = .ok (.anewarray 9, 3) := by decide +kernel
theorem dX7_init_10 : decode cX7_init 10 = .ok (.putfield 11, 3) := by decide +kernel
theorem dX7_init_13 : decode cX7_init 13 = .ok (.aload_n 0, 1) := by decide +kernel
theorem dX7_init_14 : decode cX7_init 14 = .ok (.new 15, 3) := by decide +kernel
theorem dX7_init_17 : decode cX7_init 17 = .ok (.dup, 1) := by decide +kernel
theorem dX7_init_18 : decode cX7_init 18 = .ok (.invokespecial 17, 3) := by decide +kernel
theorem dX7_init_21 : decode cX7_init 21 = .ok (.putfield 18, 3) := by decide +kernel
theorem dX7_init_24 : decode cX7_init 24 = .ok (.aload_n 0, 1) := by decide +kernel
theorem dX7_init_25 : decode cX7_init 25 = .ok (.new 22, 3) := by decide +kernel
theorem dX7_init_28 : decode cX7_init 28 = .ok (.dup, 1) := by decide +kernel
theorem dX7_init_29 : decode cX7_init 29 = .ok (.invokespecial 24, 3) := by decide +kernel
theorem dX7_init_32 : decode cX7_init 32 = .ok (.putfield 25, 3) := by decide +kernel
theorem dX7_init_35 : decode cX7_init 35 = .ok (.aload_n 0, 1) := by decide +kernel
theorem dX7_init_36 : decode cX7_init 36 = .ok (.iconst 2, 1) := by decide +kernel
theorem dX7_init_37 : decode cX7_init 37 = .ok (.anewarray 22, 3) := by decide +kernel
theorem dX7_init_40 : decode cX7_init 40 = .ok (.putfield 29, 3) := by decide +kernel
theorem dX7_init_43 : decode cX7_init 43 = .ok (.aload_n 0, 1) := by decide +kernel
theorem dX7_init_44 : decode cX7_init 44 = .ok (.new 33, 3) := by decide +kernel
theorem dX7_init_47 : decode cX7_init 47 = .ok (.dup, 1) := by decide +kernel
theorem dX7_init_48 : decode cX7_init 48 = .ok (.invokespecial 35, 3) := by decide +kernel
theorem dX7_init_51 : decode cX7_init 51 = .ok (.putfield 36, 3) := by decide +kernel
theorem dX7_init_54 : decode cX7_init 54 = .ok (.aload_n 0, 1) := by decide +kernel
theorem dX7_init_55 : decode cX7_init 55 = .ok (.new 40, 3) := by decide +kernel
theorem dX7_init_58 : decode cX7_init 58 = .ok (.dup, 1) := by decide +kernel
theorem dX7_init_59 : decode cX7_init 59 = .ok (.invokespecial 42, 3) := by decide +kernel
theorem dX7_init_62 : decode cX7_init 62 = .ok (.putfield 43, 3) := by decide +kernel
theorem dX7_init_65 : decode cX7_init 65 = .ok (.aload_n 0, 1) := by decide +kernel
theorem dX7_init_66 : decode cX7_init 66 = .ok (.new 47, 3) := by decide +kernel
theorem dX7_init_69 : decode cX7_init 69 = .ok (.dup, 1) := by decide +kernel
theorem dX7_init_70 : decode cX7_init 70 = .ok (.invokespecial 49, 3) := by decide +kernel
theorem dX7_init_73 : decode cX7_init 73 = .ok (.putfield 50, 3) := by decide +kernel
theorem dX7_init_76 : decode cX7_init 76 = .ok (.aload_n 0, 1) := by decide +kernel
theorem dX7_init_77 : decode cX7_init 77 = .ok (.new 54, 3) := by decide +kernel
theorem dX7_init_80 : decode cX7_init 80 = .ok (.dup, 1) := by decide +kernel
theorem dX7_init_81 : decode cX7_init 81 = .ok (.invokespecial 56, 3) := by decide +kernel
theorem dX7_init_84 : decode cX7_init 84 = .ok (.putfield 57, 3) := by decide +kernel
theorem dX7_init_87 : decode cX7_init 87 = .ok (.iconst 0, 1) := by decide +kernel
theorem dX7_init_88 : decode cX7_init 88 = .ok (.istore_n 1, 1) := by decide +kernel
theorem dX7_init_89 : decode cX7_init 89 = .ok (.iload_n 1, 1) := by decide +kernel
theorem dX7_init_90 : decode cX7_init 90 = .ok (.bipush 8, 2) := by decide +kernel
theorem dX7_init_92 : decode cX7_init 92 = .ok (.if_icmp .ge 22, 3) := by decide +kernel
theorem dX7_init_95 : decode cX7_init 95 = .ok (.aload_n 0, 1) := by decide +kernel
theorem dX7_init_96 : decode cX7_init 96 = .ok (.getfield 11, 3) := by decide +kernel
theorem dX7_init_99 : decode cX7_init 99 = .ok (.iload_n 1, 1) := by decide +kernel
theorem dX7_init_100 : decode cX7_init 100 = .ok (.new 9, 3) := by decide +kernel
theorem dX7_init_103 : decode cX7_init 103 = .ok (.dup, 1) := by decide +kernel
theorem dX7_init_104 : decode cX7_init 104 = .ok (.invokespecial 61, 3) := by decide +kernel
theorem dX7_init_107 : decode cX7_init 107 = .ok (.aastore, 1) := by decide +kernel
theorem dX7_init_108 : decode cX7_init 108 = .ok (.iinc 1 1, 3) := by decide +kernel
theorem dX7_init_111 : decode cX7_init 111 = .ok (.goto (-22), 3) := by decide +kernel
theorem dX7_init_114 : decode cX7_init 114 = .ok (.iconst 0, 1) := by decide +kernel
theorem dX7_init_115 : decode cX7_init 115 = .ok (.istore_n 1, 1) := by decide +kernel
theorem dX7_init_116 : decode cX7_init 116 = .ok (.iload_n 1, 1) := by decide +kernel
theorem dX7_init_117 : decode cX7_init 117 = .ok (.iconst 2, 1) := by decide +kernel
theorem dX7_init_118 : decode cX7_init 118 = .ok (.if_icmp .ge 22, 3) := by decide +kernel
theorem dX7_init_121 : decode cX7_init 121 = .ok (.aload_n 0, 1) := by decide +kernel
theorem dX7_init_122 : decode cX7_init 122 = .ok (.getfield 29, 3) := by decide +kernel
theorem dX7_init_125 : decode cX7_init 125 = .ok (.iload_n 1, 1) := by decide +kernel
theorem dX7_init_126 : decode cX7_init 126 = .ok (.new 22, 3) := by decide +kernel
theorem dX7_init_129 : decode cX7_init 129 = .ok (.dup, 1) := by decide +kernel
theorem dX7_init_130 : decode cX7_init 130 = .ok (.invokespecial 24, 3) := by decide +kernel
theorem dX7_init_133 : decode cX7_init 133 = .ok (.aastore, 1) := by decide +kernel
theorem dX7_init_134 : decode cX7_init 134 = .ok (.iinc 1 1, 3) := by decide +kernel
theorem dX7_init_137 : decode cX7_init 137 = .ok (.goto (-21), 3) := by decide +kernel
theorem dX7_init_140 : decode cX7_init 140 = .ok (.return_, 1) := by decide +kernel
theorem dX7_row_0 : decode cX7_row 0 = .ok (.iload_n 1, 1) := by decide +kernel
theorem dX7_row_1 : decode cX7_row 1 = .ok (.invokestatic 62, 3) := by decide +kernel
theorem dX7_row_4 : decode cX7_row 4 = .ok (.ifCond .eq 18, 3) := by decide +kernel
theorem dX7_row_7 : decode cX7_row 7 = .ok (.iload_n 2, 1) := by decide +kernel
theorem dX7_row_8 : decode cX7_row 8 = .ok (.iconst 0, 1) := by decide +kernel
theorem dX7_row_9 : decode cX7_row 9 = .ok (.iconst 2, 1) := by decide +kernel
theorem dX7_row_10 : decode cX7_row 10 = .ok (.invokestatic 66, 3) := by decide +kernel
theorem dX7_row_13 : decode cX7_row 13 = .ok (.ifCond .eq 9, 3) := by decide +kernel
theorem dX7_row_16 : decode cX7_row 16 = .ok (.iload_n 3, 1) := by decide +kernel
theorem dX7_row_17 : decode cX7_row 17 = .ok (.bipush 40, 2) := by decide +kernel
theorem dX7_row_19 : decode cX7_row 19 = .ok (.if_icmp .le 6, 3) := by decide +kernel
theorem dX7_row_22 : decode cX7_row 22 = .ok (.ldc 70, 2) := by decide +kernel
theorem dX7_row_24 : decode cX7_row 24 = .ok (.ireturn, 1) := by decide +kernel
theorem dX7_row_25 : decode cX7_row 25 = .ok (.iload_n 3, 1) := by decide +kernel
theorem dX7_row_26 : decode cX7_row 26 = .ok (.ifCond .ge 9, 3) := by decide +kernel
theorem dX7_row_29 : decode cX7_row 29 = .ok (.aload_n 0, 1) := by decide +kernel
theorem dX7_row_30 : decode cX7_row 30 = .ok (.iconst 4, 1) := by decide +kernel
theorem dX7_row_31 : decode cX7_row 31 = .ok (.invokevirtual 71, 3) := by decide +kernel
theorem dX7_row_34 : decode cX7_row 34 = .ok (.ireturn, 1) := by decide +kernel
theorem dX7_row_35 : decode cX7_row 35 = .ok (.aload_n 0, 1) := by decide +kernel
theorem dX7_row_36 : decode cX7_row 36 = .ok (.getfield 11, 3) := by decide +kernel
theorem dX7_row_39 : decode cX7_row 39 = .ok (.iload_n 1, 1) := by decide +kernel
theorem dX7_row_40 : decode cX7_row 40 = .ok (.aaload, 1) := by decide +kernel
theorem dX7_row_41 : decode cX7_row 41 = .ok (.iload_n 2, 1) := by decide +kernel
theorem dX7_row_42 : decode cX7_row 42 = .ok (.iload_n 3, 1) := by decide +kernel
theorem dX7_row_43 : decode cX7_row 43 = .ok (.invokevirtual 75, 3) := by decide +kernel
theorem dX7_row_46 : decode cX7_row 46 = .ok (.aload_n 0, 1) := by decide +kernel
theorem dX7_row_47 : decode cX7_row 47 = .ok (.iload_n 3, 1) := by decide +kernel
theorem dX7_row_48 : decode cX7_row 48 = .ok (.invokevirtual 79, 3) := by decide +kernel
theorem dX7_row_51 : decode cX7_row 51 = .ok (.ireturn, 1) := by decide +kernel
theorem dX7_set_0 : decode cX7_set 0 = .ok (.iload_n 1, 1) := by decide +kernel
theorem dX7_set_1 : decode cX7_set 1 = .ok (.invokestatic 62, 3) := by decide +kernel
theorem dX7_set_4 : decode cX7_set 4 = .ok (.ifCond .ne 6, 3) := by decide +kernel
theorem dX7_set_7 : decode cX7_set 7 = .ok (.ldc 70, 2) := by decide +kernel
theorem dX7_set_9 : decode cX7_set 9 = .ok (.ireturn, 1) := by decide +kernel
theorem dX7_set_10 : decode cX7_set 10 = .ok (.aload_n 0, 1) := by decide +kernel
theorem dX7_set_11 : decode cX7_set 11 = .ok (.getfield 11, 3) := by decide +kernel
theorem dX7_set_14 : decode cX7_set 14 = .ok (.iload_n 1, 1) := by decide +kernel
theorem dX7_set_15 : decode cX7_set 15 = .ok (.aaload, 1) := by decide +kernel
theorem dX7_set_16 : decode cX7_set 16 = .ok (.iload_n 2, 1) := by decide +kernel
theorem dX7_set_17 : decode cX7_set 17 = .ok (.iconst 1, 1) := by decide +kernel
theorem dX7_set_18 : decode cX7_set 18 = .ok (.invokevirtual 82, 3) := by decide +kernel
theorem dX7_set_21 : decode cX7_set 21 = .ok (.istore 4, 2) := by decide +kernel
theorem dX7_set_23 : decode cX7_set 23 = .ok (.iload 4, 2) := by decide +kernel
theorem dX7_set_25 : decode cX7_set 25 = .ok (.ifCond .eq 10, 3) := by decide +kernel
theorem dX7_set_28 : decode cX7_set 28 = .ok (.aload_n 0, 1) := by decide +kernel
theorem dX7_set_29 : decode cX7_set 29 = .ok (.iload 4, 2) := by decide +kernel
theorem dX7_set_31 : decode cX7_set 31 = .ok (.invokevirtual 71, 3) := by decide +kernel
theorem dX7_set_34 : decode cX7_set 34 = .ok (.ireturn, 1) := by decide +kernel
theorem dX7_set_35 : decode cX7_set 35 = .ok (.aload_n 0, 1) := by decide +kernel
theorem dX7_set_36 : decode cX7_set 36 = .ok (.aload_n 0, 1) := by decide +kernel
theorem dX7_set_37 : decode cX7_set 37 = .ok (.getfield 11, 3) := by decide +kernel
theorem dX7_set_40 : decode cX7_set 40 = .ok (.iload_n 1, 1) := by decide +kernel
theorem dX7_set_41 : decode cX7_set 41 = .ok (.aaload, 1) := by decide +kernel
theorem dX7_set_42 : decode cX7_set 42 = .ok (.iload_n 2, 1) := by decide +kernel
theorem dX7_set_43 : decode cX7_set 43 = .ok (.iload_n 3, 1) := by decide +kernel
theorem dX7_set_44 : decode cX7_set 44 = .ok (.invokevirtual 86, 3) := by decide +kernel
theorem dX7_set_47 : decode cX7_set 47 = .ok (.invokevirtual 79, 3) := by decide +kernel
theorem dX7_set_50 : decode cX7_set 50 = .ok (.ireturn, 1) := by decide +kernel
theorem dX7_copy_0 : decode cX7_copy 0 = .ok (.iload_n 1, 1) := by decide +kernel
theorem dX7_copy_1 : decode cX7_copy 1 = .ok (.invokestatic 62, 3) := by decide +kernel
theorem dX7_copy_4 : decode cX7_copy 4 = .ok (.ifCond .eq 10, 3) := by decide +kernel
theorem dX7_copy_7 : decode cX7_copy 7 = .ok (.iload_n 3, 1) := by decide +kernel
theorem dX7_copy_8 : decode cX7_copy 8 = .ok (.invokestatic 62, 3) := by decide +kernel
theorem dX7_copy_11 : decode cX7_copy 11 = .ok (.ifCond .ne 6, 3) := by decide +kernel
theorem dX7_copy_14 : decode cX7_copy 14 = .ok (.ldc 70, 2) := by decide +kernel
theorem dX7_copy_16 : decode cX7_copy 16 = .ok (.ireturn, 1) := by decide +kernel
theorem dX7_copy_17 : decode cX7_copy 17 = .ok (.aload_n 0, 1) := by decide +kernel
theorem dX7_copy_18 : decode cX7_copy 18 = .ok (.getfield 11, 3) := by decide +kernel
theorem dX7_copy_21 : decode cX7_copy 21 = .ok (.iload_n 1, 1) := by decide +kernel
theorem dX7_copy_22 : decode cX7_copy 22 = .ok (.aaload, 1) := by decide +kernel
theorem dX7_copy_23 : decode cX7_copy 23 = .ok (.iload_n 2, 1) := by decide +kernel
theorem dX7_copy_24 : decode cX7_copy 24 = .ok (.aload_n 0, 1) := by decide +kernel
theorem dX7_copy_25 : decode cX7_copy 25 = .ok (.getfield 11, 3) := by decide +kernel
theorem dX7_copy_28 : decode cX7_copy 28 = .ok (.iload_n 3, 1) := by decide +kernel
theorem dX7_copy_29 : decode cX7_copy 29 = .ok (.aaload, 1) := by decide +kernel
theorem dX7_copy_30 : decode cX7_copy 30 = .ok (.iload 4, 2) := by decide +kernel
theorem dX7_copy_32 : decode cX7_copy 32 = .ok (.iload 5, 2) := by decide +kernel
theorem dX7_copy_34 : decode cX7_copy 34 = .ok (.invokestatic 89, 3) := by decide +kernel
theorem dX7_copy_37 : decode cX7_copy 37 = .ok (.istore 6, 2) := by decide +kernel
theorem dX7_copy_39 : decode cX7_copy 39 = .ok (.iload 6, 2) := by decide +kernel
theorem dX7_copy_41 : decode cX7_copy 41 = .ok (.ifCond .eq 10, 3) := by decide +kernel
theorem dX7_copy_44 : decode cX7_copy 44 = .ok (.aload_n 0, 1) := by decide +kernel
theorem dX7_copy_45 : decode cX7_copy 45 = .ok (.iload 6, 2) := by decide +kernel
theorem dX7_copy_47 : decode cX7_copy 47 = .ok (.invokevirtual 71, 3) := by decide +kernel
theorem dX7_copy_50 : decode cX7_copy 50 = .ok (.ireturn, 1) := by decide +kernel
theorem dX7_copy_51 : decode cX7_copy 51 = .ok (.aload_n 0, 1) := by decide +kernel
theorem dX7_copy_52 : decode cX7_copy 52 = .ok (.getfield 11, 3) := by decide +kernel
theorem dX7_copy_55 : decode cX7_copy 55 = .ok (.iload_n 1, 1) := by decide +kernel
theorem dX7_copy_56 : decode cX7_copy 56 = .ok (.aaload, 1) := by decide +kernel
theorem dX7_copy_57 : decode cX7_copy 57 = .ok (.getfield 93, 3) := by decide +kernel
theorem dX7_copy_60 : decode cX7_copy 60 = .ok (.iload_n 2, 1) := by decide +kernel
theorem dX7_copy_61 : decode cX7_copy 61 = .ok (.aload_n 0, 1) := by decide +kernel
theorem dX7_copy_62 : decode cX7_copy 62 = .ok (.getfield 11, 3) := by decide +kernel
theorem dX7_copy_65 : decode cX7_copy 65 = .ok (.iload_n 3, 1) := by decide +kernel
theorem dX7_copy_66 : decode cX7_copy 66 = .ok (.aaload, 1) := by decide +kernel
theorem dX7_copy_67 : decode cX7_copy 67 = .ok (.getfield 93, 3) := by decide +kernel
theorem dX7_copy_70 : decode cX7_copy 70 = .ok (.iload 4, 2) := by decide +kernel
theorem dX7_copy_72 : decode cX7_copy 72 = .ok (.iload 5, 2) := by decide +kernel
theorem dX7_copy_74 : decode cX7_copy 74 = .ok (.invokestatic 97, 3) := by decide +kernel
theorem dX7_copy_77 : decode cX7_copy 77 = .ok (.aload_n 0, 1) := by decide +kernel
theorem dX7_copy_78 : decode cX7_copy 78 = .ok (.iload 5, 2) := by decide +kernel
theorem dX7_copy_80 : decode cX7_copy 80 = .ok (.invokevirtual 79, 3) := by decide +kernel
theorem dX7_copy_83 : decode cX7_copy 83 = .ok (.ireturn, 1) := by decide +kernel
theorem dX7_drop_0 : decode cX7_drop 0 = .ok (.iload_n 1, 1) := by decide +kernel
theorem dX7_drop_1 : decode cX7_drop 1 = .ok (.invokestatic 62, 3) := by decide +kernel
theorem dX7_drop_4 : decode cX7_drop 4 = .ok (.ifCond .ne 6, 3) := by decide +kernel
theorem dX7_drop_7 : decode cX7_drop 7 = .ok (.ldc 70, 2) := by decide +kernel
theorem dX7_drop_9 : decode cX7_drop 9 = .ok (.ireturn, 1) := by decide +kernel
theorem dX7_drop_10 : decode cX7_drop 10 = .ok (.aload_n 0, 1) := by decide +kernel
theorem dX7_drop_11 : decode cX7_drop 11 = .ok (.getfield 11, 3) := by decide +kernel
theorem dX7_drop_14 : decode cX7_drop 14 = .ok (.iload_n 1, 1) := by decide +kernel
theorem dX7_drop_15 : decode cX7_drop 15 = .ok (.aaload, 1) := by decide +kernel
theorem dX7_drop_16 : decode cX7_drop 16 = .ok (.getfield 103, 3) := by decide +kernel
theorem dX7_drop_19 : decode cX7_drop 19 = .ok (.ifCond .eq 9, 3) := by decide +kernel
theorem dX7_drop_22 : decode cX7_drop 22 = .ok (.aload_n 0, 1) := by decide +kernel
theorem dX7_drop_23 : decode cX7_drop 23 = .ok (.iconst 1, 1) := by decide +kernel
theorem dX7_drop_24 : decode cX7_drop 24 = .ok (.invokevirtual 71, 3) := by decide +kernel
theorem dX7_drop_27 : decode cX7_drop 27 = .ok (.ireturn, 1) := by decide +kernel
theorem dX7_drop_28 : decode cX7_drop 28 = .ok (.aload_n 0, 1) := by decide +kernel
theorem dX7_drop_29 : decode cX7_drop 29 = .ok (.getfield 11, 3) := by decide +kernel
theorem dX7_drop_32 : decode cX7_drop 32 = .ok (.iload_n 1, 1) := by decide +kernel
theorem dX7_drop_33 : decode cX7_drop 33 = .ok (.aaload, 1) := by decide +kernel
theorem dX7_drop_34 : decode cX7_drop 34 = .ok (.iconst 1, 1) := by decide +kernel
theorem dX7_drop_35 : decode cX7_drop 35 = .ok (.putfield 103, 3) := by decide +kernel
theorem dX7_drop_38 : decode cX7_drop 38 = .ok (.aload_n 0, 1) := by decide +kernel
theorem dX7_drop_39 : decode cX7_drop 39 = .ok (.aload_n 0, 1) := by decide +kernel
theorem dX7_drop_40 : decode cX7_drop 40 = .ok (.getfield 11, 3) := by decide +kernel
theorem dX7_drop_43 : decode cX7_drop 43 = .ok (.iload_n 1, 1) := by decide +kernel
theorem dX7_drop_44 : decode cX7_drop 44 = .ok (.aaload, 1) := by decide +kernel
theorem dX7_drop_45 : decode cX7_drop 45 = .ok (.getfield 107, 3) := by decide +kernel
theorem dX7_drop_48 : decode cX7_drop 48 = .ok (.invokevirtual 79, 3) := by decide +kernel
theorem dX7_drop_51 : decode cX7_drop 51 = .ok (.ireturn, 1) := by decide +kernel
theorem dX7_feed_0 : decode cX7_feed 0 = .ok (.iload_n 1, 1) := by decide +kernel
theorem dX7_feed_1 : decode cX7_feed 1 = .ok (.iconst 0, 1) := by decide +kernel
theorem dX7_feed_2 : decode cX7_feed 2 = .ok (.sipush 255, 3) := by decide +kernel
theorem dX7_feed_5 : decode cX7_feed 5 = .ok (.invokestatic 66, 3) := by decide +kernel
theorem dX7_feed_8 : decode cX7_feed 8 = .ok (.ifCond .ne 6, 3) := by decide +kernel
theorem dX7_feed_11 : decode cX7_feed 11 = .ok (.ldc 70, 2) := by decide +kernel
theorem dX7_feed_13 : decode cX7_feed 13 = .ok (.ireturn, 1) := by decide +kernel
theorem dX7_feed_14 : decode cX7_feed 14 = .ok (.aload_n 0, 1) := by decide +kernel
theorem dX7_feed_15 : decode cX7_feed 15 = .ok (.getfield 18, 3) := by decide +kernel
theorem dX7_feed_18 : decode cX7_feed 18 = .ok (.getfield 111, 3) := by decide +kernel
theorem dX7_feed_21 : decode cX7_feed 21 = .ok (.bipush 100, 2) := by decide +kernel
theorem dX7_feed_23 : decode cX7_feed 23 = .ok (.if_icmp .lt 6, 3) := by decide +kernel
theorem dX7_feed_26 : decode cX7_feed 26 = .ok (.ldc 114, 2) := by decide +kernel
theorem dX7_feed_28 : decode cX7_feed 28 = .ok (.ireturn, 1) := by decide +kernel
theorem dX7_feed_29 : decode cX7_feed 29 = .ok (.aload_n 0, 1) := by decide +kernel
theorem dX7_feed_30 : decode cX7_feed 30 = .ok (.getfield 18, 3) := by decide +kernel
theorem dX7_feed_33 : decode cX7_feed 33 = .ok (.iload_n 1, 1) := by decide +kernel
theorem dX7_feed_34 : decode cX7_feed 34 = .ok (.invokevirtual 115, 3) := by decide +kernel
theorem dX7_feed_37 : decode cX7_feed 37 = .ok (.ireturn, 1) := by decide +kernel
theorem dX7_street_0 : decode cX7_street 0 = .ok (.aload_n 0, 1) := by decide +kernel
theorem dX7_street_1 : decode cX7_street 1 = .ok (.getfield 18, 3) := by decide +kernel
theorem dX7_street_4 : decode cX7_street 4 = .ok (.invokevirtual 118, 3) := by decide +kernel
theorem dX7_street_7 : decode cX7_street 7 = .ok (.aload_n 0, 1) := by decide +kernel
theorem dX7_street_8 : decode cX7_street 8 = .ok (.getfield 18, 3) := by decide +kernel
theorem dX7_street_11 : decode cX7_street 11 = .ok (.iconst 0, 1) := by decide +kernel
theorem dX7_street_12 : decode cX7_street 12 = .ok (.putfield 111, 3) := by decide +kernel
theorem dX7_street_15 : decode cX7_street 15 = .ok (.aload_n 0, 1) := by decide +kernel
theorem dX7_street_16 : decode cX7_street 16 = .ok (.getfield 18, 3) := by decide +kernel
theorem dX7_street_19 : decode cX7_street 19 = .ok (.getfield 121, 3) := by decide +kernel
theorem dX7_street_22 : decode cX7_street 22 = .ok (.ifCond .eq 25, 3) := by decide +kernel
theorem dX7_street_25 : decode cX7_street 25 = .ok (.aload_n 0, 1) := by decide +kernel
theorem dX7_street_26 : decode cX7_street 26 = .ok (.aload_n 0, 1) := by decide +kernel
theorem dX7_street_27 : decode cX7_street 27 = .ok (.getfield 18, 3) := by decide +kernel
theorem dX7_street_30 : decode cX7_street 30 = .ok (.getfield 121, 3) := by decide +kernel
theorem dX7_street_33 : decode cX7_street 33 = .ok (.putfield 124, 3) := by decide +kernel
theorem dX7_street_36 : decode cX7_street 36 = .ok (.ldc 127, 2) := by decide +kernel
theorem dX7_street_38 : decode cX7_street 38 = .ok (.aload_n 0, 1) := by decide +kernel
theorem dX7_street_39 : decode cX7_street 39 = .ok (.getfield 18, 3) := by decide +kernel
theorem dX7_street_42 : decode cX7_street 42 = .ok (.getfield 128, 3) := by decide +kernel
theorem dX7_street_45 : decode cX7_street 45 = .ok (.isub, 1) := by decide +kernel
theorem dX7_street_46 : decode cX7_street 46 = .ok (.ireturn, 1) := by decide +kernel
theorem dX7_street_47 : decode cX7_street 47 = .ok (.aload_n 0, 1) := by decide +kernel
theorem dX7_street_48 : decode cX7_street 48 = .ok (.getfield 25, 3) := by decide +kernel
theorem dX7_street_51 : decode cX7_street 51 = .ok (.aload_n 0, 1) := by decide +kernel
theorem dX7_street_52 : decode cX7_street 52 = .ok (.getfield 18, 3) := by decide +kernel
theorem dX7_street_55 : decode cX7_street 55 = .ok (.getfield 131, 3) := by decide +kernel
theorem dX7_street_58 : decode cX7_street 58 = .ok (.invokevirtual 134, 3) := by decide +kernel
theorem dX7_street_61 : decode cX7_street 61 = .ok (.aload_n 0, 1) := by decide +kernel
theorem dX7_street_62 : decode cX7_street 62 = .ok (.getfield 36, 3) := by decide +kernel
theorem dX7_street_65 : decode cX7_street 65 = .ok (.invokevirtual 138, 3) := by decide +kernel
theorem dX7_street_68 : decode cX7_street 68 = .ok (.aload_n 0, 1) := by decide +kernel
theorem dX7_street_69 : decode cX7_street 69 = .ok (.getfield 25, 3) := by decide +kernel
theorem dX7_street_72 : decode cX7_street 72 = .ok (.getfield 141, 3) := by decide +kernel
theorem dX7_street_75 : decode cX7_street 75 = .ok (.ireturn, 1) := by decide +kernel
theorem dX7_fault_0 : decode cX7_fault 0 = .ok (.aload_n 0, 1) := by decide +kernel
theorem dX7_fault_1 : decode cX7_fault 1 = .ok (.getfield 124, 3) := by decide +kernel
theorem dX7_fault_4 : decode cX7_fault 4 = .ok (.ireturn, 1) := by decide +kernel
theorem dX7_undo_0 : decode cX7_undo 0 = .ok (.aload_n 0, 1) := by decide +kernel
theorem dX7_undo_1 : decode cX7_undo 1 = .ok (.getfield 36, 3) := by decide +kernel
theorem dX7_undo_4 : decode cX7_undo 4 = .ok (.getfield 144, 3) := by decide +kernel
theorem dX7_undo_7 : decode cX7_undo 7 = .ok (.ifCond .ne 6, 3) := by decide +kernel
theorem dX7_undo_10 : decode cX7_undo 10 = .ok (.ldc 145, 2) := by decide +kernel
theorem dX7_undo_12 : decode cX7_undo 12 = .ok (.ireturn, 1) := by decide +kernel
theorem dX7_undo_13 : decode cX7_undo 13 = .ok (.aload_n 0, 1) := by decide +kernel
theorem dX7_undo_14 : decode cX7_undo 14 = .ok (.getfield 36, 3) := by decide +kernel
theorem dX7_undo_17 : decode cX7_undo 17 = .ok (.aload_n 0, 1) := by decide +kernel
theorem dX7_undo_18 : decode cX7_undo 18 = .ok (.getfield 25, 3) := by decide +kernel
theorem dX7_undo_21 : decode cX7_undo 21 = .ok (.invokevirtual 146, 3) := by decide +kernel
theorem dX7_undo_24 : decode cX7_undo 24 = .ok (.aload_n 0, 1) := by decide +kernel
theorem dX7_undo_25 : decode cX7_undo 25 = .ok (.getfield 36, 3) := by decide +kernel
theorem dX7_undo_28 : decode cX7_undo 28 = .ok (.getfield 144, 3) := by decide +kernel
theorem dX7_undo_31 : decode cX7_undo 31 = .ok (.ireturn, 1) := by decide +kernel
theorem dX7_hours_0 : decode cX7_hours 0 = .ok (.aload_n 0, 1) := by decide +kernel
theorem dX7_hours_1 : decode cX7_hours 1 = .ok (.invokevirtual 149, 3) := by decide +kernel
theorem dX7_hours_4 : decode cX7_hours 4 = .ok (.ifCond .eq 6, 3) := by decide +kernel
theorem dX7_hours_7 : decode cX7_hours 7 = .ok (.ldc 145, 2) := by decide +kernel
theorem dX7_hours_9 : decode cX7_hours 9 = .ok (.ireturn, 1) := by decide +kernel
theorem dX7_hours_10 : decode cX7_hours 10 = .ok (.iload_n 1, 1) := by decide +kernel
theorem dX7_hours_11 : decode cX7_hours 11 = .ok (.iconst 1, 1) := by decide +kernel
theorem dX7_hours_12 : decode cX7_hours 12 = .ok (.bipush 24, 2) := by decide +kernel
theorem dX7_hours_14 : decode cX7_hours 14 = .ok (.invokestatic 66, 3) := by decide +kernel
theorem dX7_hours_17 : decode cX7_hours 17 = .ok (.ifCond .ne 6, 3) := by decide +kernel
theorem dX7_hours_20 : decode cX7_hours 20 = .ok (.ldc 70, 2) := by decide +kernel
theorem dX7_hours_22 : decode cX7_hours 22 = .ok (.ireturn, 1) := by decide +kernel
theorem dX7_hours_23 : decode cX7_hours 23 = .ok (.aload_n 0, 1) := by decide +kernel
theorem dX7_hours_24 : decode cX7_hours 24 = .ok (.getfield 25, 3) := by decide +kernel
theorem dX7_hours_27 : decode cX7_hours 27 = .ok (.getfield 153, 3) := by decide +kernel
theorem dX7_hours_30 : decode cX7_hours 30 = .ok (.iload_n 1, 1) := by decide +kernel
theorem dX7_hours_31 : decode cX7_hours 31 = .ok (.iadd, 1) := by decide +kernel
theorem dX7_hours_32 : decode cX7_hours 32 = .ok (.sipush 999, 3) := by decide +kernel
theorem dX7_hours_35 : decode cX7_hours 35 = .ok (.if_icmp .le 6, 3) := by decide +kernel
theorem dX7_hours_38 : decode cX7_hours 38 = .ok (.ldc 114, 2) := by decide +kernel
theorem dX7_hours_40 : decode cX7_hours 40 = .ok (.ireturn, 1) := by decide +kernel
theorem dX7_hours_41 : decode cX7_hours 41 = .ok (.iconst 0, 1) := by decide +kernel
theorem dX7_hours_42 : decode cX7_hours 42 = .ok (.istore_n 2, 1) := by decide +kernel
theorem dX7_hours_43 : decode cX7_hours 43 = .ok (.iload_n 2, 1) := by decide +kernel
theorem dX7_hours_44 : decode cX7_hours 44 = .ok (.iload_n 1, 1) := by decide +kernel
theorem dX7_hours_45 : decode cX7_hours 45 = .ok (.if_icmp .ge 27, 3) := by decide +kernel
theorem dX7_hours_48 : decode cX7_hours 48 = .ok (.aload_n 0, 1) := by decide +kernel
theorem dX7_hours_49 : decode cX7_hours 49 = .ok (.getfield 36, 3) := by decide +kernel
theorem dX7_hours_52 : decode cX7_hours 52 = .ok (.aload_n 0, 1) := by decide +kernel
theorem dX7_hours_53 : decode cX7_hours 53 = .ok (.getfield 25, 3) := by decide +kernel
theorem dX7_hours_56 : decode cX7_hours 56 = .ok (.invokevirtual 156, 3) := by decide +kernel
theorem dX7_hours_59 : decode cX7_hours 59 = .ok (.aload_n 0, 1) := by decide +kernel
theorem dX7_hours_60 : decode cX7_hours 60 = .ok (.getfield 25, 3) := by decide +kernel
theorem dX7_hours_63 : decode cX7_hours 63 = .ok (.invokevirtual 159, 3) := by decide +kernel
theorem dX7_hours_66 : decode cX7_hours 66 = .ok (.iinc 2 1, 3) := by decide +kernel
theorem dX7_hours_69 : decode cX7_hours 69 = .ok (.goto (-26), 3) := by decide +kernel
theorem dX7_hours_72 : decode cX7_hours 72 = .ok (.aload_n 0, 1) := by decide +kernel
theorem dX7_hours_73 : decode cX7_hours 73 = .ok (.getfield 25, 3) := by decide +kernel
theorem dX7_hours_76 : decode cX7_hours 76 = .ok (.invokevirtual 162, 3) := by decide +kernel
theorem dX7_hours_79 : decode cX7_hours 79 = .ok (.ireturn, 1) := by decide +kernel
theorem dX7_lash_0 : decode cX7_lash 0 = .ok (.aload_n 0, 1) := by decide +kernel
theorem dX7_lash_1 : decode cX7_lash 1 = .ok (.iload_n 1, 1) := by decide +kernel
theorem dX7_lash_2 : decode cX7_lash 2 = .ok (.invokevirtual 166, 3) := by decide +kernel
theorem dX7_lash_5 : decode cX7_lash 5 = .ok (.ifCond .ne 6, 3) := by decide +kernel
theorem dX7_lash_8 : decode cX7_lash 8 = .ok (.ldc 70, 2) := by decide +kernel
theorem dX7_lash_10 : decode cX7_lash 10 = .ok (.ireturn, 1) := by decide +kernel
theorem dX7_lash_11 : decode cX7_lash 11 = .ok (.aload_n 0, 1) := by decide +kernel
theorem dX7_lash_12 : decode cX7_lash 12 = .ok (.getfield 25, 3) := by decide +kernel
theorem dX7_lash_15 : decode cX7_lash 15 = .ok (.getfield 169, 3) := by decide +kernel
theorem dX7_lash_18 : decode cX7_lash 18 = .ok (.iload_n 1, 1) := by decide +kernel
theorem dX7_lash_19 : decode cX7_lash 19 = .ok (.iaload, 1) := by decide +kernel
theorem dX7_lash_20 : decode cX7_lash 20 = .ok (.ifCond .ne 6, 3) := by decide +kernel
theorem dX7_lash_23 : decode cX7_lash 23 = .ok (.ldc 145, 2) := by decide +kernel
theorem dX7_lash_25 : decode cX7_lash 25 = .ok (.ireturn, 1) := by decide +kernel
theorem dX7_lash_26 : decode cX7_lash 26 = .ok (.aload_n 0, 1) := by decide +kernel
theorem dX7_lash_27 : decode cX7_lash 27 = .ok (.getfield 36, 3) := by decide +kernel
theorem dX7_lash_30 : decode cX7_lash 30 = .ok (.aload_n 0, 1) := by decide +kernel
theorem dX7_lash_31 : decode cX7_lash 31 = .ok (.getfield 25, 3) := by decide +kernel
theorem dX7_lash_34 : decode cX7_lash 34 = .ok (.invokevirtual 156, 3) := by decide +kernel
theorem dX7_lash_37 : decode cX7_lash 37 = .ok (.aload_n 0, 1) := by decide +kernel
theorem dX7_lash_38 : decode cX7_lash 38 = .ok (.getfield 25, 3) := by decide +kernel
theorem dX7_lash_41 : decode cX7_lash 41 = .ok (.iload_n 1, 1) := by decide +kernel
theorem dX7_lash_42 : decode cX7_lash 42 = .ok (.aload_n 0, 1) := by decide +kernel
theorem dX7_lash_43 : decode cX7_lash 43 = .ok (.getfield 25, 3) := by decide +kernel
theorem dX7_lash_46 : decode cX7_lash 46 = .ok (.getfield 172, 3) := by decide +kernel
theorem dX7_lash_49 : decode cX7_lash 49 = .ok (.invokevirtual 175, 3) := by decide +kernel
theorem dX7_lash_52 : decode cX7_lash 52 = .ok (.aload_n 0, 1) := by decide +kernel
theorem dX7_lash_53 : decode cX7_lash 53 = .ok (.getfield 25, 3) := by decide +kernel
theorem dX7_lash_56 : decode cX7_lash 56 = .ok (.getfield 169, 3) := by decide +kernel
theorem dX7_lash_59 : decode cX7_lash 59 = .ok (.iload_n 1, 1) := by decide +kernel
theorem dX7_lash_60 : decode cX7_lash 60 = .ok (.iaload, 1) := by decide +kernel
theorem dX7_lash_61 : decode cX7_lash 61 = .ok (.ireturn, 1) := by decide +kernel
theorem dX7_touch_0 : decode cX7_touch 0 = .ok (.iload_n 1, 1) := by decide +kernel
theorem dX7_touch_1 : decode cX7_touch 1 = .ok (.iconst 0, 1) := by decide +kernel
theorem dX7_touch_2 : decode cX7_touch 2 = .ok (.aload_n 0, 1) := by decide +kernel
theorem dX7_touch_3 : decode cX7_touch 3 = .ok (.getfield 25, 3) := by decide +kernel
theorem dX7_touch_6 : decode cX7_touch 6 = .ok (.getfield 141, 3) := by decide +kernel
theorem dX7_touch_9 : decode cX7_touch 9 = .ok (.iconst 2, 1) := by decide +kernel
theorem dX7_touch_10 : decode cX7_touch 10 = .ok (.isub, 1) := by decide +kernel
theorem dX7_touch_11 : decode cX7_touch 11 = .ok (.invokestatic 66, 3) := by decide +kernel
theorem dX7_touch_14 : decode cX7_touch 14 = .ok (.ifCond .eq 12, 3) := by decide +kernel
theorem dX7_touch_17 : decode cX7_touch 17 = .ok (.iload_n 2, 1) := by decide +kernel
theorem dX7_touch_18 : decode cX7_touch 18 = .ok (.iconst 0, 1) := by decide +kernel
theorem dX7_touch_19 : decode cX7_touch 19 = .ok (.iconst 1, 1) := by decide +kernel
theorem dX7_touch_20 : decode cX7_touch 20 = .ok (.invokestatic 66, 3) := by decide +kernel
theorem dX7_touch_23 : decode cX7_touch 23 = .ok (.ifCond .ne 6, 3) := by decide +kernel
theorem dX7_touch_26 : decode cX7_touch 26 = .ok (.ldc 70, 2) := by decide +kernel
theorem dX7_touch_28 : decode cX7_touch 28 = .ok (.ireturn, 1) := by decide +kernel
theorem dX7_touch_29 : decode cX7_touch 29 = .ok (.aload_n 0, 1) := by decide +kernel
theorem dX7_touch_30 : decode cX7_touch 30 = .ok (.getfield 25, 3) := by decide +kernel
theorem dX7_touch_33 : decode cX7_touch 33 = .ok (.getfield 178, 3) := by decide +kernel
theorem dX7_touch_36 : decode cX7_touch 36 = .ok (.iload_n 1, 1) := by decide +kernel
theorem dX7_touch_37 : decode cX7_touch 37 = .ok (.ishr, 1) := by decide +kernel
theorem dX7_touch_38 : decode cX7_touch 38 = .ok (.iconst 1, 1) := by decide +kernel
theorem dX7_touch_39 : decode cX7_touch 39 = .ok (.iand, 1) := by decide +kernel
theorem dX7_touch_40 : decode cX7_touch 40 = .ok (.iload_n 2, 1) := by decide +kernel
theorem dX7_touch_41 : decode cX7_touch 41 = .ok (.if_icmp .ne 6, 3) := by decide +kernel
theorem dX7_touch_44 : decode cX7_touch 44 = .ok (.ldc 145, 2) := by decide +kernel
theorem dX7_touch_46 : decode cX7_touch 46 = .ok (.ireturn, 1) := by decide +kernel
theorem dX7_touch_47 : decode cX7_touch 47 = .ok (.aload_n 0, 1) := by decide +kernel
theorem dX7_touch_48 : decode cX7_touch 48 = .ok (.getfield 36, 3) := by decide +kernel
theorem dX7_touch_51 : decode cX7_touch 51 = .ok (.aload_n 0, 1) := by decide +kernel
theorem dX7_touch_52 : decode cX7_touch 52 = .ok (.getfield 25, 3) := by decide +kernel
theorem dX7_touch_55 : decode cX7_touch 55 = .ok (.invokevirtual 156, 3) := by decide +kernel
theorem dX7_touch_58 : decode cX7_touch 58 = .ok (.aload_n 0, 1) := by decide +kernel
theorem dX7_touch_59 : decode cX7_touch 59 = .ok (.getfield 25, 3) := by decide +kernel
theorem dX7_touch_62 : decode cX7_touch 62 = .ok (.dup, 1) := by decide +kernel
theorem dX7_touch_63 : decode cX7_touch 63 = .ok (.getfield 178, 3) := by decide +kernel
theorem dX7_touch_66 : decode cX7_touch 66 = .ok (.iconst 1, 1) := by decide +kernel
theorem dX7_touch_67 : decode cX7_touch 67 = .ok (.iload_n 1, 1) := by decide +kernel
theorem dX7_touch_68 : decode cX7_touch 68 = .ok (.ishl, 1) := by decide +kernel
theorem dX7_touch_69 : decode cX7_touch 69 = .ok (.ixor, 1) := by decide +kernel
theorem dX7_touch_70 : decode cX7_touch 70 = .ok (.putfield 178, 3) := by decide +kernel
theorem dX7_touch_73 : decode cX7_touch 73 = .ok (.aload_n 0, 1) := by decide +kernel
theorem dX7_touch_74 : decode cX7_touch 74 = .ok (.getfield 25, 3) := by decide +kernel
theorem dX7_touch_77 : decode cX7_touch 77 = .ok (.getfield 178, 3) := by decide +kernel
theorem dX7_touch_80 : decode cX7_touch 80 = .ok (.ireturn, 1) := by decide +kernel
theorem dX7_putUp_0 : decode cX7_putUp 0 = .ok (.aload_n 0, 1) := by decide +kernel
theorem dX7_putUp_1 : decode cX7_putUp 1 = .ok (.iload_n 1, 1) := by decide +kernel
theorem dX7_putUp_2 : decode cX7_putUp 2 = .ok (.invokevirtual 166, 3) := by decide +kernel
theorem dX7_putUp_5 : decode cX7_putUp 5 = .ok (.ifCond .ne 6, 3) := by decide +kernel
theorem dX7_putUp_8 : decode cX7_putUp 8 = .ok (.ldc 70, 2) := by decide +kernel
theorem dX7_putUp_10 : decode cX7_putUp 10 = .ok (.ireturn, 1) := by decide +kernel
theorem dX7_putUp_11 : decode cX7_putUp 11 = .ok (.aload_n 0, 1) := by decide +kernel
theorem dX7_putUp_12 : decode cX7_putUp 12 = .ok (.getfield 25, 3) := by decide +kernel
theorem dX7_putUp_15 : decode cX7_putUp 15 = .ok (.getfield 169, 3) := by decide +kernel
theorem dX7_putUp_18 : decode cX7_putUp 18 = .ok (.iload_n 1, 1) := by decide +kernel
theorem dX7_putUp_19 : decode cX7_putUp 19 = .ok (.iaload, 1) := by decide +kernel
theorem dX7_putUp_20 : decode cX7_putUp 20 = .ok (.ifCond .eq 6, 3) := by decide +kernel
theorem dX7_putUp_23 : decode cX7_putUp 23 = .ok (.ldc 145, 2) := by decide +kernel
theorem dX7_putUp_25 : decode cX7_putUp 25 = .ok (.ireturn, 1) := by decide +kernel
theorem dX7_putUp_26 : decode cX7_putUp 26 = .ok (.aload_n 0, 1) := by decide +kernel
theorem dX7_putUp_27 : decode cX7_putUp 27 = .ok (.getfield 36, 3) := by decide +kernel
theorem dX7_putUp_30 : decode cX7_putUp 30 = .ok (.aload_n 0, 1) := by decide +kernel
theorem dX7_putUp_31 : decode cX7_putUp 31 = .ok (.getfield 25, 3) := by decide +kernel
theorem dX7_putUp_34 : decode cX7_putUp 34 = .ok (.invokevirtual 156, 3) := by decide +kernel
theorem dX7_putUp_37 : decode cX7_putUp 37 = .ok (.aload_n 0, 1) := by decide +kernel
theorem dX7_putUp_38 : decode cX7_putUp 38 = .ok (.getfield 25, 3) := by decide +kernel
theorem dX7_putUp_41 : decode cX7_putUp 41 = .ok (.getfield 169, 3) := by decide +kernel
theorem dX7_putUp_44 : decode cX7_putUp 44 = .ok (.iload_n 1, 1) := by decide +kernel
theorem dX7_putUp_45 : decode cX7_putUp 45 = .ok (.bipush 50, 2) := by decide +kernel
theorem dX7_putUp_47 : decode cX7_putUp 47 = .ok (.iastore, 1) := by decide +kernel
theorem dX7_putUp_48 : decode cX7_putUp 48 = .ok (.aload_n 0, 1) := by decide +kernel
theorem dX7_putUp_49 : decode cX7_putUp 49 = .ok (.getfield 25, 3) := by decide +kernel
theorem dX7_putUp_52 : decode cX7_putUp 52 = .ok (.invokevirtual 162, 3) := by decide +kernel
theorem dX7_putUp_55 : decode cX7_putUp 55 = .ok (.ireturn, 1) := by decide +kernel
theorem dX7_house_0 : decode cX7_house 0 = .ok (.aload_n 0, 1) := by decide +kernel
theorem dX7_house_1 : decode cX7_house 1 = .ok (.iload_n 1, 1) := by decide +kernel
theorem dX7_house_2 : decode cX7_house 2 = .ok (.invokevirtual 166, 3) := by decide +kernel
theorem dX7_house_5 : decode cX7_house 5 = .ok (.ifCond .ne 6, 3) := by decide +kernel
theorem dX7_house_8 : decode cX7_house 8 = .ok (.ldc 70, 2) := by decide +kernel
theorem dX7_house_10 : decode cX7_house 10 = .ok (.ireturn, 1) := by decide +kernel
theorem dX7_house_11 : decode cX7_house 11 = .ok (.iload_n 2, 1) := by decide +kernel
theorem dX7_house_12 : decode cX7_house 12 = .ok (.tableswitch 113 0 5 #[40, 50, 60, 78, 95, 104], 40) := by decide +kernel
theorem dX7_house_52 : decode cX7_house 52 = .ok (.aload_n 0, 1) := by decide +kernel
theorem dX7_house_53 : decode cX7_house 53 = .ok (.getfield 25, 3) := by decide +kernel
theorem dX7_house_56 : decode cX7_house 56 = .ok (.getfield 169, 3) := by decide +kernel
theorem dX7_house_59 : decode cX7_house 59 = .ok (.iload_n 1, 1) := by decide +kernel
theorem dX7_house_60 : decode cX7_house 60 = .ok (.iaload, 1) := by decide +kernel
theorem dX7_house_61 : decode cX7_house 61 = .ok (.ireturn, 1) := by decide +kernel
theorem dX7_house_62 : decode cX7_house 62 = .ok (.aload_n 0, 1) := by decide +kernel
theorem dX7_house_63 : decode cX7_house 63 = .ok (.getfield 25, 3) := by decide +kernel
theorem dX7_house_66 : decode cX7_house 66 = .ok (.getfield 181, 3) := by decide +kernel
theorem dX7_house_69 : decode cX7_house 69 = .ok (.iload_n 1, 1) := by decide +kernel
theorem dX7_house_70 : decode cX7_house 70 = .ok (.iaload, 1) := by decide +kernel
theorem dX7_house_71 : decode cX7_house 71 = .ok (.ireturn, 1) := by decide +kernel
theorem dX7_house_72 : decode cX7_house 72 = .ok (.aload_n 0, 1) := by decide +kernel
theorem dX7_house_73 : decode cX7_house 73 = .ok (.getfield 25, 3) := by decide +kernel
theorem dX7_house_76 : decode cX7_house 76 = .ok (.getfield 169, 3) := by decide +kernel
theorem dX7_house_79 : decode cX7_house 79 = .ok (.iload_n 1, 1) := by decide +kernel
theorem dX7_house_80 : decode cX7_house 80 = .ok (.iaload, 1) := by decide +kernel
theorem dX7_house_81 : decode cX7_house 81 = .ok (.ifCond .ne 7, 3) := by decide +kernel
theorem dX7_house_84 : decode cX7_house 84 = .ok (.iconst 1, 1) := by decide +kernel
theorem dX7_house_85 : decode cX7_house 85 = .ok (.goto 4, 3) := by decide +kernel
theorem dX7_house_88 : decode cX7_house 88 = .ok (.iconst 0, 1) := by decide +kernel
theorem dX7_house_89 : decode cX7_house 89 = .ok (.ireturn, 1) := by decide +kernel
theorem dX7_house_90 : decode cX7_house 90 = .ok (.aload_n 0, 1) := by decide +kernel
theorem dX7_house_91 : decode cX7_house 91 = .ok (.getfield 25, 3) := by decide +kernel
theorem dX7_house_94 : decode cX7_house 94 = .ok (.iload_n 1, 1) := by decide +kernel
theorem dX7_house_95 : decode cX7_house 95 = .ok (.invokevirtual 184, 3) := by decide +kernel
theorem dX7_house_98 : decode cX7_house 98 = .ok (.ifCond .eq 7, 3) := by decide +kernel
theorem dX7_house_101 : decode cX7_house 101 = .ok (.iconst 1, 1) := by decide +kernel
theorem dX7_house_102 : decode cX7_house 102 = .ok (.goto 4, 3) := by decide +kernel
theorem dX7_house_105 : decode cX7_house 105 = .ok (.iconst 0, 1) := by decide +kernel
theorem dX7_house_106 : decode cX7_house 106 = .ok (.ireturn, 1) := by decide +kernel
theorem dX7_house_107 : decode cX7_house 107 = .ok (.aload_n 0, 1) := by decide +kernel
theorem dX7_house_108 : decode cX7_house 108 = .ok (.getfield 25, 3) := by decide +kernel
theorem dX7_house_111 : decode cX7_house 111 = .ok (.iload_n 1, 1) := by decide +kernel
theorem dX7_house_112 : decode cX7_house 112 = .ok (.invokevirtual 187, 3) := by decide +kernel
theorem dX7_house_115 : decode cX7_house 115 = .ok (.ireturn, 1) := by decide +kernel
theorem dX7_house_116 : decode cX7_house 116 = .ok (.aload_n 0, 1) := by decide +kernel
theorem dX7_house_117 : decode cX7_house 117 = .ok (.getfield 25, 3) := by decide +kernel
theorem dX7_house_120 : decode cX7_house 120 = .ok (.iload_n 1, 1) := by decide +kernel
theorem dX7_house_121 : decode cX7_house 121 = .ok (.invokevirtual 190, 3) := by decide +kernel
theorem dX7_house_124 : decode cX7_house 124 = .ok (.ireturn, 1) := by decide +kernel
theorem dX7_house_125 : decode cX7_house 125 = .ok (.ldc 70, 2) := by decide +kernel
theorem dX7_house_127 : decode cX7_house 127 = .ok (.ireturn, 1) := by decide +kernel
theorem dX7_stand_0 : decode cX7_stand 0 = .ok (.aload_n 0, 1) := by decide +kernel
theorem dX7_stand_1 : decode cX7_stand 1 = .ok (.invokevirtual 149, 3) := by decide +kernel
theorem dX7_stand_4 : decode cX7_stand 4 = .ok (.ifCond .eq 6, 3) := by decide +kernel
theorem dX7_stand_7 : decode cX7_stand 7 = .ok (.ldc 145, 2) := by decide +kernel
theorem dX7_stand_9 : decode cX7_stand 9 = .ok (.ireturn, 1) := by decide +kernel
theorem dX7_stand_10 : decode cX7_stand 10 = .ok (.iload_n 1, 1) := by decide +kernel
theorem dX7_stand_11 : decode cX7_stand 11 = .ok (.tableswitch 85 0 5 #[37, 45, 53, 61, 69, 77], 37) := by decide +kernel
theorem dX7_stand_48 : decode cX7_stand 48 = .ok (.aload_n 0, 1) := by decide +kernel
theorem dX7_stand_49 : decode cX7_stand 49 = .ok (.getfield 25, 3) := by decide +kernel
theorem dX7_stand_52 : decode cX7_stand 52 = .ok (.invokevirtual 162, 3) := by decide +kernel
theorem dX7_stand_55 : decode cX7_stand 55 = .ok (.ireturn, 1) := by decide +kernel
theorem dX7_stand_56 : decode cX7_stand 56 = .ok (.aload_n 0, 1) := by decide +kernel
theorem dX7_stand_57 : decode cX7_stand 57 = .ok (.getfield 25, 3) := by decide +kernel
theorem dX7_stand_60 : decode cX7_stand 60 = .ok (.invokevirtual 193, 3) := by decide +kernel
theorem dX7_stand_63 : decode cX7_stand 63 = .ok (.ireturn, 1) := by decide +kernel
theorem dX7_stand_64 : decode cX7_stand 64 = .ok (.aload_n 0, 1) := by decide +kernel
theorem dX7_stand_65 : decode cX7_stand 65 = .ok (.getfield 25, 3) := by decide +kernel
theorem dX7_stand_68 : decode cX7_stand 68 = .ok (.getfield 178, 3) := by decide +kernel
theorem dX7_stand_71 : decode cX7_stand 71 = .ok (.ireturn, 1) := by decide +kernel
theorem dX7_stand_72 : decode cX7_stand 72 = .ok (.aload_n 0, 1) := by decide +kernel
theorem dX7_stand_73 : decode cX7_stand 73 = .ok (.getfield 25, 3) := by decide +kernel
theorem dX7_stand_76 : decode cX7_stand 76 = .ok (.invokevirtual 196, 3) := by decide +kernel
theorem dX7_stand_79 : decode cX7_stand 79 = .ok (.ireturn, 1) := by decide +kernel
theorem dX7_stand_80 : decode cX7_stand 80 = .ok (.aload_n 0, 1) := by decide +kernel
theorem dX7_stand_81 : decode cX7_stand 81 = .ok (.getfield 25, 3) := by decide +kernel
theorem dX7_stand_84 : decode cX7_stand 84 = .ok (.getfield 172, 3) := by decide +kernel
theorem dX7_stand_87 : decode cX7_stand 87 = .ok (.ireturn, 1) := by decide +kernel
theorem dX7_stand_88 : decode cX7_stand 88 = .ok (.aload_n 0, 1) := by decide +kernel
theorem dX7_stand_89 : decode cX7_stand 89 = .ok (.getfield 25, 3) := by decide +kernel
theorem dX7_stand_92 : decode cX7_stand 92 = .ok (.getfield 199, 3) := by decide +kernel
theorem dX7_stand_95 : decode cX7_stand 95 = .ok (.ireturn, 1) := by decide +kernel
theorem dX7_stand_96 : decode cX7_stand 96 = .ok (.ldc 70, 2) := by decide +kernel
theorem dX7_stand_98 : decode cX7_stand 98 = .ok (.ireturn, 1) := by decide +kernel
theorem dX7_ahead_0 : decode cX7_ahead 0 = .ok (.aload_n 0, 1) := by decide +kernel
theorem dX7_ahead_1 : decode cX7_ahead 1 = .ok (.iload_n 1, 1) := by decide +kernel
theorem dX7_ahead_2 : decode cX7_ahead 2 = .ok (.invokevirtual 166, 3) := by decide +kernel
theorem dX7_ahead_5 : decode cX7_ahead 5 = .ok (.ifCond .eq 13, 3) := by decide +kernel
theorem dX7_ahead_8 : decode cX7_ahead 8 = .ok (.iload_n 2, 1) := by decide +kernel
theorem dX7_ahead_9 : decode cX7_ahead 9 = .ok (.iconst 0, 1) := by decide +kernel
theorem dX7_ahead_10 : decode cX7_ahead 10 = .ok (.bipush 60, 2) := by decide +kernel
theorem dX7_ahead_12 : decode cX7_ahead 12 = .ok (.invokestatic 66, 3) := by decide +kernel
theorem dX7_ahead_15 : decode cX7_ahead 15 = .ok (.ifCond .ne 6, 3) := by decide +kernel
theorem dX7_ahead_18 : decode cX7_ahead 18 = .ok (.ldc 70, 2) := by decide +kernel
theorem dX7_ahead_20 : decode cX7_ahead 20 = .ok (.ireturn, 1) := by decide +kernel
theorem dX7_ahead_21 : decode cX7_ahead 21 = .ok (.aload_n 0, 1) := by decide +kernel
theorem dX7_ahead_22 : decode cX7_ahead 22 = .ok (.getfield 43, 3) := by decide +kernel
theorem dX7_ahead_25 : decode cX7_ahead 25 = .ok (.aload_n 0, 1) := by decide +kernel
theorem dX7_ahead_26 : decode cX7_ahead 26 = .ok (.getfield 25, 3) := by decide +kernel
theorem dX7_ahead_29 : decode cX7_ahead 29 = .ok (.iload_n 2, 1) := by decide +kernel
theorem dX7_ahead_30 : decode cX7_ahead 30 = .ok (.invokevirtual 202, 3) := by decide +kernel
theorem dX7_ahead_33 : decode cX7_ahead 33 = .ok (.getfield 169, 3) := by decide +kernel
theorem dX7_ahead_36 : decode cX7_ahead 36 = .ok (.iload_n 1, 1) := by decide +kernel
theorem dX7_ahead_37 : decode cX7_ahead 37 = .ok (.iaload, 1) := by decide +kernel
theorem dX7_ahead_38 : decode cX7_ahead 38 = .ok (.ireturn, 1) := by decide +kernel
theorem dX7_when_0 : decode cX7_when 0 = .ok (.aload_n 0, 1) := by decide +kernel
theorem dX7_when_1 : decode cX7_when 1 = .ok (.iload_n 1, 1) := by decide +kernel
theorem dX7_when_2 : decode cX7_when 2 = .ok (.invokevirtual 166, 3) := by decide +kernel
theorem dX7_when_5 : decode cX7_when 5 = .ok (.ifCond .eq 12, 3) := by decide +kernel
theorem dX7_when_8 : decode cX7_when 8 = .ok (.iload_n 2, 1) := by decide +kernel
theorem dX7_when_9 : decode cX7_when 9 = .ok (.iconst 0, 1) := by decide +kernel
theorem dX7_when_10 : decode cX7_when 10 = .ok (.iconst 1, 1) := by decide +kernel
theorem dX7_when_11 : decode cX7_when 11 = .ok (.invokestatic 66, 3) := by decide +kernel
theorem dX7_when_14 : decode cX7_when 14 = .ok (.ifCond .ne 6, 3) := by decide +kernel
theorem dX7_when_17 : decode cX7_when 17 = .ok (.ldc 70, 2) := by decide +kernel
theorem dX7_when_19 : decode cX7_when 19 = .ok (.ireturn, 1) := by decide +kernel
theorem dX7_when_20 : decode cX7_when 20 = .ok (.aload_n 0, 1) := by decide +kernel
theorem dX7_when_21 : decode cX7_when 21 = .ok (.getfield 43, 3) := by decide +kernel
theorem dX7_when_24 : decode cX7_when 24 = .ok (.aload_n 0, 1) := by decide +kernel
theorem dX7_when_25 : decode cX7_when 25 = .ok (.getfield 25, 3) := by decide +kernel
theorem dX7_when_28 : decode cX7_when 28 = .ok (.iload_n 1, 1) := by decide +kernel
theorem dX7_when_29 : decode cX7_when 29 = .ok (.iload_n 2, 1) := by decide +kernel
theorem dX7_when_30 : decode cX7_when 30 = .ok (.invokevirtual 206, 3) := by decide +kernel
theorem dX7_when_33 : decode cX7_when 33 = .ok (.ireturn, 1) := by decide +kernel
theorem dX7_first_0 : decode cX7_first 0 = .ok (.aload_n 0, 1) := by decide +kernel
theorem dX7_first_1 : decode cX7_first 1 = .ok (.invokevirtual 149, 3) := by decide +kernel
theorem dX7_first_4 : decode cX7_first 4 = .ok (.ifCond .eq 6, 3) := by decide +kernel
theorem dX7_first_7 : decode cX7_first 7 = .ok (.ldc 145, 2) := by decide +kernel
theorem dX7_first_9 : decode cX7_first 9 = .ok (.ireturn, 1) := by decide +kernel
theorem dX7_first_10 : decode cX7_first 10 = .ok (.iload_n 1, 1) := by decide +kernel
theorem dX7_first_11 : decode cX7_first 11 = .ok (.iconst 0, 1) := by decide +kernel
theorem dX7_first_12 : decode cX7_first 12 = .ok (.iconst 1, 1) := by decide +kernel
theorem dX7_first_13 : decode cX7_first 13 = .ok (.invokestatic 66, 3) := by decide +kernel
theorem dX7_first_16 : decode cX7_first 16 = .ok (.ifCond .ne 6, 3) := by decide +kernel
theorem dX7_first_19 : decode cX7_first 19 = .ok (.ldc 70, 2) := by decide +kernel
theorem dX7_first_21 : decode cX7_first 21 = .ok (.ireturn, 1) := by decide +kernel
theorem dX7_first_22 : decode cX7_first 22 = .ok (.aload_n 0, 1) := by decide +kernel
theorem dX7_first_23 : decode cX7_first 23 = .ok (.getfield 43, 3) := by decide +kernel
theorem dX7_first_26 : decode cX7_first 26 = .ok (.aload_n 0, 1) := by decide +kernel
theorem dX7_first_27 : decode cX7_first 27 = .ok (.getfield 25, 3) := by decide +kernel
theorem dX7_first_30 : decode cX7_first 30 = .ok (.iload_n 1, 1) := by decide +kernel
theorem dX7_first_31 : decode cX7_first 31 = .ok (.invokevirtual 210, 3) := by decide +kernel
theorem dX7_first_34 : decode cX7_first 34 = .ok (.ireturn, 1) := by decide +kernel
theorem dX7_left_0 : decode cX7_left 0 = .ok (.aload_n 0, 1) := by decide +kernel
theorem dX7_left_1 : decode cX7_left 1 = .ok (.invokevirtual 149, 3) := by decide +kernel
theorem dX7_left_4 : decode cX7_left 4 = .ok (.ifCond .eq 6, 3) := by decide +kernel
theorem dX7_left_7 : decode cX7_left 7 = .ok (.ldc 145, 2) := by decide +kernel
theorem dX7_left_9 : decode cX7_left 9 = .ok (.ireturn, 1) := by decide +kernel
theorem dX7_left_10 : decode cX7_left 10 = .ok (.iload_n 1, 1) := by decide +kernel
theorem dX7_left_11 : decode cX7_left 11 = .ok (.iconst 0, 1) := by decide +kernel
theorem dX7_left_12 : decode cX7_left 12 = .ok (.bipush 60, 2) := by decide +kernel
theorem dX7_left_14 : decode cX7_left 14 = .ok (.invokestatic 66, 3) := by decide +kernel
theorem dX7_left_17 : decode cX7_left 17 = .ok (.ifCond .ne 6, 3) := by decide +kernel
theorem dX7_left_20 : decode cX7_left 20 = .ok (.ldc 70, 2) := by decide +kernel
theorem dX7_left_22 : decode cX7_left 22 = .ok (.ireturn, 1) := by decide +kernel
theorem dX7_left_23 : decode cX7_left 23 = .ok (.aload_n 0, 1) := by decide +kernel
theorem dX7_left_24 : decode cX7_left 24 = .ok (.getfield 43, 3) := by decide +kernel
theorem dX7_left_27 : decode cX7_left 27 = .ok (.aload_n 0, 1) := by decide +kernel
theorem dX7_left_28 : decode cX7_left 28 = .ok (.getfield 25, 3) := by decide +kernel
theorem dX7_left_31 : decode cX7_left 31 = .ok (.iload_n 1, 1) := by decide +kernel
theorem dX7_left_32 : decode cX7_left 32 = .ok (.invokevirtual 202, 3) := by decide +kernel
theorem dX7_left_35 : decode cX7_left 35 = .ok (.invokevirtual 162, 3) := by decide +kernel
theorem dX7_left_38 : decode cX7_left 38 = .ok (.ireturn, 1) := by decide +kernel
theorem dX7_round_0 : decode cX7_round 0 = .ok (.aload_n 0, 1) := by decide +kernel
theorem dX7_round_1 : decode cX7_round 1 = .ok (.iload_n 1, 1) := by decide +kernel
theorem dX7_round_2 : decode cX7_round 2 = .ok (.invokevirtual 166, 3) := by decide +kernel
theorem dX7_round_5 : decode cX7_round 5 = .ok (.ifCond .eq 19, 3) := by decide +kernel
theorem dX7_round_8 : decode cX7_round 8 = .ok (.iload_n 2, 1) := by decide +kernel
theorem dX7_round_9 : decode cX7_round 9 = .ok (.iconst 1, 1) := by decide +kernel
theorem dX7_round_10 : decode cX7_round 10 = .ok (.bipush 7, 2) := by decide +kernel
theorem dX7_round_12 : decode cX7_round 12 = .ok (.invokestatic 66, 3) := by decide +kernel
theorem dX7_round_15 : decode cX7_round 15 = .ok (.ifCond .eq 9, 3) := by decide +kernel
theorem dX7_round_18 : decode cX7_round 18 = .ok (.iload_n 3, 1) := by decide +kernel
theorem dX7_round_19 : decode cX7_round 19 = .ok (.bipush (-2), 2) := by decide +kernel
theorem dX7_round_21 : decode cX7_round 21 = .ok (.if_icmp .ge 6, 3) := by decide +kernel
theorem dX7_round_24 : decode cX7_round 24 = .ok (.ldc 70, 2) := by decide +kernel
theorem dX7_round_26 : decode cX7_round 26 = .ok (.ireturn, 1) := by decide +kernel
theorem dX7_round_27 : decode cX7_round 27 = .ok (.iload_n 3, 1) := by decide +kernel
theorem dX7_round_28 : decode cX7_round 28 = .ok (.iload_n 2, 1) := by decide +kernel
theorem dX7_round_29 : decode cX7_round 29 = .ok (.if_icmp .lt 6, 3) := by decide +kernel
theorem dX7_round_32 : decode cX7_round 32 = .ok (.ldc 214, 2) := by decide +kernel
theorem dX7_round_34 : decode cX7_round 34 = .ok (.ireturn, 1) := by decide +kernel
theorem dX7_round_35 : decode cX7_round 35 = .ok (.aload_n 0, 1) := by decide +kernel
theorem dX7_round_36 : decode cX7_round 36 = .ok (.getfield 50, 3) := by decide +kernel
theorem dX7_round_39 : decode cX7_round 39 = .ok (.aload_n 0, 1) := by decide +kernel
theorem dX7_round_40 : decode cX7_round 40 = .ok (.getfield 25, 3) := by decide +kernel
theorem dX7_round_43 : decode cX7_round 43 = .ok (.iload_n 1, 1) := by decide +kernel
theorem dX7_round_44 : decode cX7_round 44 = .ok (.iload_n 2, 1) := by decide +kernel
theorem dX7_round_45 : decode cX7_round 45 = .ok (.invokevirtual 215, 3) := by decide +kernel
theorem dX7_round_48 : decode cX7_round 48 = .ok (.iload_n 3, 1) := by decide +kernel
theorem dX7_round_49 : decode cX7_round 49 = .ok (.iconst (-1), 1) := by decide +kernel
theorem dX7_round_50 : decode cX7_round 50 = .ok (.if_icmp .ne 11, 3) := by decide +kernel
theorem dX7_round_53 : decode cX7_round 53 = .ok (.aload_n 0, 1) := by decide +kernel
theorem dX7_round_54 : decode cX7_round 54 = .ok (.getfield 50, 3) := by decide +kernel
theorem dX7_round_57 : decode cX7_round 57 = .ok (.getfield 219, 3) := by decide +kernel
theorem dX7_round_60 : decode cX7_round 60 = .ok (.ireturn, 1) := by decide +kernel
theorem dX7_round_61 : decode cX7_round 61 = .ok (.iload_n 3, 1) := by decide +kernel
theorem dX7_round_62 : decode cX7_round 62 = .ok (.bipush (-2), 2) := by decide +kernel
theorem dX7_round_64 : decode cX7_round 64 = .ok (.if_icmp .ne 13, 3) := by decide +kernel
theorem dX7_round_67 : decode cX7_round 67 = .ok (.aload_n 0, 1) := by decide +kernel
theorem dX7_round_68 : decode cX7_round 68 = .ok (.getfield 50, 3) := by decide +kernel
theorem dX7_round_71 : decode cX7_round 71 = .ok (.getfield 222, 3) := by decide +kernel
theorem dX7_round_74 : decode cX7_round 74 = .ok (.goto 12, 3) := by decide +kernel
theorem dX7_round_77 : decode cX7_round 77 = .ok (.aload_n 0, 1) := by decide +kernel
theorem dX7_round_78 : decode cX7_round 78 = .ok (.getfield 50, 3) := by decide +kernel
theorem dX7_round_81 : decode cX7_round 81 = .ok (.getfield 225, 3) := by decide +kernel
theorem dX7_round_84 : decode cX7_round 84 = .ok (.iload_n 3, 1) := by decide +kernel
theorem dX7_round_85 : decode cX7_round 85 = .ok (.iaload, 1) := by decide +kernel
theorem dX7_round_86 : decode cX7_round 86 = .ok (.ireturn, 1) := by decide +kernel
theorem dX7_walls_0 : decode cX7_walls 0 = .ok (.aload_n 0, 1) := by decide +kernel
theorem dX7_walls_1 : decode cX7_walls 1 = .ok (.invokevirtual 149, 3) := by decide +kernel
theorem dX7_walls_4 : decode cX7_walls 4 = .ok (.ifCond .eq 6, 3) := by decide +kernel
theorem dX7_walls_7 : decode cX7_walls 7 = .ok (.ldc 145, 2) := by decide +kernel
theorem dX7_walls_9 : decode cX7_walls 9 = .ok (.ireturn, 1) := by decide +kernel
theorem dX7_walls_10 : decode cX7_walls 10 = .ok (.iload_n 1, 1) := by decide +kernel
theorem dX7_walls_11 : decode cX7_walls 11 = .ok (.iconst 1, 1) := by decide +kernel
theorem dX7_walls_12 : decode cX7_walls 12 = .ok (.bipush 60, 2) := by decide +kernel
theorem dX7_walls_14 : decode cX7_walls 14 = .ok (.invokestatic 66, 3) := by decide +kernel
theorem dX7_walls_17 : decode cX7_walls 17 = .ok (.ifCond .eq 12, 3) := by decide +kernel
theorem dX7_walls_20 : decode cX7_walls 20 = .ok (.iload_n 2, 1) := by decide +kernel
theorem dX7_walls_21 : decode cX7_walls 21 = .ok (.iconst 0, 1) := by decide +kernel
theorem dX7_walls_22 : decode cX7_walls 22 = .ok (.iconst 1, 1) := by decide +kernel
theorem dX7_walls_23 : decode cX7_walls 23 = .ok (.invokestatic 66, 3) := by decide +kernel
theorem dX7_walls_26 : decode cX7_walls 26 = .ok (.ifCond .ne 6, 3) := by decide +kernel
theorem dX7_walls_29 : decode cX7_walls 29 = .ok (.ldc 70, 2) := by decide +kernel
theorem dX7_walls_31 : decode cX7_walls 31 = .ok (.ireturn, 1) := by decide +kernel
theorem dX7_walls_32 : decode cX7_walls 32 = .ok (.aload_n 0, 1) := by decide +kernel
theorem dX7_walls_33 : decode cX7_walls 33 = .ok (.getfield 43, 3) := by decide +kernel
theorem dX7_walls_36 : decode cX7_walls 36 = .ok (.aload_n 0, 1) := by decide +kernel
theorem dX7_walls_37 : decode cX7_walls 37 = .ok (.getfield 25, 3) := by decide +kernel
theorem dX7_walls_40 : decode cX7_walls 40 = .ok (.iload_n 1, 1) := by decide +kernel
theorem dX7_walls_41 : decode cX7_walls 41 = .ok (.iload_n 2, 1) := by decide +kernel
theorem dX7_walls_42 : decode cX7_walls 42 = .ok (.invokevirtual 228, 3) := by decide +kernel
theorem dX7_walls_45 : decode cX7_walls 45 = .ok (.ireturn, 1) := by decide +kernel
theorem dX7_steady_0 : decode cX7_steady 0 = .ok (.aload_n 0, 1) := by decide +kernel
theorem dX7_steady_1 : decode cX7_steady 1 = .ok (.invokevirtual 149, 3) := by decide +kernel
theorem dX7_steady_4 : decode cX7_steady 4 = .ok (.ifCond .eq 6, 3) := by decide +kernel
theorem dX7_steady_7 : decode cX7_steady 7 = .ok (.ldc 145, 2) := by decide +kernel
theorem dX7_steady_9 : decode cX7_steady 9 = .ok (.ireturn, 1) := by decide +kernel
theorem dX7_steady_10 : decode cX7_steady 10 = .ok (.iload_n 1, 1) := by decide +kernel
theorem dX7_steady_11 : decode cX7_steady 11 = .ok (.iconst 1, 1) := by decide +kernel
theorem dX7_steady_12 : decode cX7_steady 12 = .ok (.bipush 60, 2) := by decide +kernel
theorem dX7_steady_14 : decode cX7_steady 14 = .ok (.invokestatic 66, 3) := by decide +kernel
theorem dX7_steady_17 : decode cX7_steady 17 = .ok (.ifCond .eq 12, 3) := by decide +kernel
theorem dX7_steady_20 : decode cX7_steady 20 = .ok (.iload_n 2, 1) := by decide +kernel
theorem dX7_steady_21 : decode cX7_steady 21 = .ok (.iconst 0, 1) := by decide +kernel
theorem dX7_steady_22 : decode cX7_steady 22 = .ok (.iconst 1, 1) := by decide +kernel
theorem dX7_steady_23 : decode cX7_steady 23 = .ok (.invokestatic 66, 3) := by decide +kernel
theorem dX7_steady_26 : decode cX7_steady 26 = .ok (.ifCond .ne 6, 3) := by decide +kernel
theorem dX7_steady_29 : decode cX7_steady 29 = .ok (.ldc 70, 2) := by decide +kernel
theorem dX7_steady_31 : decode cX7_steady 31 = .ok (.ireturn, 1) := by decide +kernel
theorem dX7_steady_32 : decode cX7_steady 32 = .ok (.aload_n 0, 1) := by decide +kernel
theorem dX7_steady_33 : decode cX7_steady 33 = .ok (.getfield 43, 3) := by decide +kernel
theorem dX7_steady_36 : decode cX7_steady 36 = .ok (.aload_n 0, 1) := by decide +kernel
theorem dX7_steady_37 : decode cX7_steady 37 = .ok (.getfield 25, 3) := by decide +kernel
theorem dX7_steady_40 : decode cX7_steady 40 = .ok (.iload_n 1, 1) := by decide +kernel
theorem dX7_steady_41 : decode cX7_steady 41 = .ok (.iload_n 2, 1) := by decide +kernel
theorem dX7_steady_42 : decode cX7_steady 42 = .ok (.invokevirtual 231, 3) := by decide +kernel
theorem dX7_steady_45 : decode cX7_steady 45 = .ok (.ireturn, 1) := by decide +kernel
theorem dX7_boys_0 : decode cX7_boys 0 = .ok (.aload_n 0, 1) := by decide +kernel
theorem dX7_boys_1 : decode cX7_boys 1 = .ok (.invokevirtual 149, 3) := by decide +kernel
theorem dX7_boys_4 : decode cX7_boys 4 = .ok (.ifCond .eq 6, 3) := by decide +kernel
theorem dX7_boys_7 : decode cX7_boys 7 = .ok (.ldc 145, 2) := by decide +kernel
theorem dX7_boys_9 : decode cX7_boys 9 = .ok (.ireturn, 1) := by decide +kernel
theorem dX7_boys_10 : decode cX7_boys 10 = .ok (.iload_n 1, 1) := by decide +kernel
theorem dX7_boys_11 : decode cX7_boys 11 = .ok (.iconst 0, 1) := by decide +kernel
theorem dX7_boys_12 : decode cX7_boys 12 = .ok (.iconst 4, 1) := by decide +kernel
theorem dX7_boys_13 : decode cX7_boys 13 = .ok (.invokestatic 66, 3) := by decide +kernel
theorem dX7_boys_16 : decode cX7_boys 16 = .ok (.ifCond .eq 13, 3) := by decide +kernel
theorem dX7_boys_19 : decode cX7_boys 19 = .ok (.iload_n 2, 1) := by decide +kernel
theorem dX7_boys_20 : decode cX7_boys 20 = .ok (.iconst 1, 1) := by decide +kernel
theorem dX7_boys_21 : decode cX7_boys 21 = .ok (.bipush 20, 2) := by decide +kernel
theorem dX7_boys_23 : decode cX7_boys 23 = .ok (.invokestatic 66, 3) := by decide +kernel
theorem dX7_boys_26 : decode cX7_boys 26 = .ok (.ifCond .ne 6, 3) := by decide +kernel
theorem dX7_boys_29 : decode cX7_boys 29 = .ok (.ldc 70, 2) := by decide +kernel
theorem dX7_boys_31 : decode cX7_boys 31 = .ok (.ireturn, 1) := by decide +kernel
theorem dX7_boys_32 : decode cX7_boys 32 = .ok (.aload_n 0, 1) := by decide +kernel
theorem dX7_boys_33 : decode cX7_boys 33 = .ok (.getfield 43, 3) := by decide +kernel
theorem dX7_boys_36 : decode cX7_boys 36 = .ok (.getfield 234, 3) := by decide +kernel
theorem dX7_boys_39 : decode cX7_boys 39 = .ok (.aload_n 0, 1) := by decide +kernel
theorem dX7_boys_40 : decode cX7_boys 40 = .ok (.getfield 25, 3) := by decide +kernel
theorem dX7_boys_43 : decode cX7_boys 43 = .ok (.invokevirtual 134, 3) := by decide +kernel
theorem dX7_boys_46 : decode cX7_boys 46 = .ok (.aload_n 0, 1) := by decide +kernel
theorem dX7_boys_47 : decode cX7_boys 47 = .ok (.getfield 43, 3) := by decide +kernel
theorem dX7_boys_50 : decode cX7_boys 50 = .ok (.iconst 0, 1) := by decide +kernel
theorem dX7_boys_51 : decode cX7_boys 51 = .ok (.iload_n 1, 1) := by decide +kernel
theorem dX7_boys_52 : decode cX7_boys 52 = .ok (.iload_n 2, 1) := by decide +kernel
theorem dX7_boys_53 : decode cX7_boys 53 = .ok (.invokestatic 237, 3) := by decide +kernel
theorem dX7_boys_56 : decode cX7_boys 56 = .ok (.ireturn, 1) := by decide +kernel
theorem dX7_string_0 : decode cX7_string 0 = .ok (.aload_n 0, 1) := by decide +kernel
theorem dX7_string_1 : decode cX7_string 1 = .ok (.iload_n 1, 1) := by decide +kernel
theorem dX7_string_2 : decode cX7_string 2 = .ok (.invokevirtual 166, 3) := by decide +kernel
theorem dX7_string_5 : decode cX7_string 5 = .ok (.ifCond .eq 14, 3) := by decide +kernel
theorem dX7_string_8 : decode cX7_string 8 = .ok (.iload_n 2, 1) := by decide +kernel
theorem dX7_string_9 : decode cX7_string 9 = .ok (.iconst 0, 1) := by decide +kernel
theorem dX7_string_10 : decode cX7_string 10 = .ok (.sipush 999, 3) := by decide +kernel
theorem dX7_string_13 : decode cX7_string 13 = .ok (.invokestatic 66, 3) := by decide +kernel
theorem dX7_string_16 : decode cX7_string 16 = .ok (.ifCond .ne 6, 3) := by decide +kernel
theorem dX7_string_19 : decode cX7_string 19 = .ok (.ldc 70, 2) := by decide +kernel
theorem dX7_string_21 : decode cX7_string 21 = .ok (.ireturn, 1) := by decide +kernel
theorem dX7_string_22 : decode cX7_string 22 = .ok (.aload_n 0, 1) := by decide +kernel
theorem dX7_string_23 : decode cX7_string 23 = .ok (.getfield 25, 3) := by decide +kernel
theorem dX7_string_26 : decode cX7_string 26 = .ok (.iload_n 1, 1) := by decide +kernel
theorem dX7_string_27 : decode cX7_string 27 = .ok (.iload_n 2, 1) := by decide +kernel
theorem dX7_string_28 : decode cX7_string 28 = .ok (.invokevirtual 241, 3) := by decide +kernel
theorem dX7_string_31 : decode cX7_string 31 = .ok (.ireturn, 1) := by decide +kernel
theorem dX7_who_0 : decode cX7_who 0 = .ok (.aload_n 0, 1) := by decide +kernel
theorem dX7_who_1 : decode cX7_who 1 = .ok (.iload_n 1, 1) := by decide +kernel
theorem dX7_who_2 : decode cX7_who 2 = .ok (.invokevirtual 166, 3) := by decide +kernel
theorem dX7_who_5 : decode cX7_who 5 = .ok (.ifCond .eq 30, 3) := by decide +kernel
theorem dX7_who_8 : decode cX7_who 8 = .ok (.iload_n 2, 1) := by decide +kernel
theorem dX7_who_9 : decode cX7_who 9 = .ok (.iconst 0, 1) := by decide +kernel
theorem dX7_who_10 : decode cX7_who 10 = .ok (.iconst 4, 1) := by decide +kernel
theorem dX7_who_11 : decode cX7_who 11 = .ok (.invokestatic 66, 3) := by decide +kernel
theorem dX7_who_14 : decode cX7_who 14 = .ok (.ifCond .eq 21, 3) := by decide +kernel
theorem dX7_who_17 : decode cX7_who 17 = .ok (.iload_n 3, 1) := by decide +kernel
theorem dX7_who_18 : decode cX7_who 18 = .ok (.invokestatic 62, 3) := by decide +kernel
theorem dX7_who_21 : decode cX7_who 21 = .ok (.ifCond .eq 14, 3) := by decide +kernel
theorem dX7_who_24 : decode cX7_who 24 = .ok (.iload 5, 2) := by decide +kernel
theorem dX7_who_26 : decode cX7_who 26 = .ok (.iconst 1, 1) := by decide +kernel
theorem dX7_who_27 : decode cX7_who 27 = .ok (.bipush 12, 2) := by decide +kernel
theorem dX7_who_29 : decode cX7_who 29 = .ok (.invokestatic 66, 3) := by decide +kernel
theorem dX7_who_32 : decode cX7_who 32 = .ok (.ifCond .ne 6, 3) := by decide +kernel
theorem dX7_who_35 : decode cX7_who 35 = .ok (.ldc 70, 2) := by decide +kernel
theorem dX7_who_37 : decode cX7_who 37 = .ok (.ireturn, 1) := by decide +kernel
theorem dX7_who_38 : decode cX7_who 38 = .ok (.aload_n 0, 1) := by decide +kernel
theorem dX7_who_39 : decode cX7_who 39 = .ok (.getfield 11, 3) := by decide +kernel
theorem dX7_who_42 : decode cX7_who 42 = .ok (.iload_n 3, 1) := by decide +kernel
theorem dX7_who_43 : decode cX7_who 43 = .ok (.aaload, 1) := by decide +kernel
theorem dX7_who_44 : decode cX7_who 44 = .ok (.iload 4, 2) := by decide +kernel
theorem dX7_who_46 : decode cX7_who 46 = .ok (.iload 5, 2) := by decide +kernel
theorem dX7_who_48 : decode cX7_who 48 = .ok (.invokevirtual 82, 3) := by decide +kernel
theorem dX7_who_51 : decode cX7_who 51 = .ok (.istore 6, 2) := by decide +kernel
theorem dX7_who_53 : decode cX7_who 53 = .ok (.iload 6, 2) := by decide +kernel
theorem dX7_who_55 : decode cX7_who 55 = .ok (.ifCond .eq 10, 3) := by decide +kernel
theorem dX7_who_58 : decode cX7_who 58 = .ok (.aload_n 0, 1) := by decide +kernel
theorem dX7_who_59 : decode cX7_who 59 = .ok (.iload 6, 2) := by decide +kernel
theorem dX7_who_61 : decode cX7_who 61 = .ok (.invokevirtual 71, 3) := by decide +kernel
theorem dX7_who_64 : decode cX7_who 64 = .ok (.ireturn, 1) := by decide +kernel
theorem dX7_who_65 : decode cX7_who 65 = .ok (.aload_n 0, 1) := by decide +kernel
theorem dX7_who_66 : decode cX7_who 66 = .ok (.getfield 43, 3) := by decide +kernel
theorem dX7_who_69 : decode cX7_who 69 = .ok (.aload_n 0, 1) := by decide +kernel
theorem dX7_who_70 : decode cX7_who 70 = .ok (.getfield 11, 3) := by decide +kernel
theorem dX7_who_73 : decode cX7_who 73 = .ok (.iload_n 3, 1) := by decide +kernel
theorem dX7_who_74 : decode cX7_who 74 = .ok (.aaload, 1) := by decide +kernel
theorem dX7_who_75 : decode cX7_who 75 = .ok (.getfield 93, 3) := by decide +kernel
theorem dX7_who_78 : decode cX7_who 78 = .ok (.iload 4, 2) := by decide +kernel
theorem dX7_who_80 : decode cX7_who 80 = .ok (.iload 5, 2) := by decide +kernel
theorem dX7_who_82 : decode cX7_who 82 = .ok (.invokevirtual 244, 3) := by decide +kernel
theorem dX7_who_85 : decode cX7_who 85 = .ok (.iload_n 2, 1) := by decide +kernel
theorem dX7_who_86 : decode cX7_who 86 = .ok (.ifCond .ne 20, 3) := by decide +kernel
theorem dX7_who_89 : decode cX7_who 89 = .ok (.aload_n 0, 1) := by decide +kernel
theorem dX7_who_90 : decode cX7_who 90 = .ok (.aload_n 0, 1) := by decide +kernel
theorem dX7_who_91 : decode cX7_who 91 = .ok (.getfield 43, 3) := by decide +kernel
theorem dX7_who_94 : decode cX7_who 94 = .ok (.aload_n 0, 1) := by decide +kernel
theorem dX7_who_95 : decode cX7_who 95 = .ok (.getfield 25, 3) := by decide +kernel
theorem dX7_who_98 : decode cX7_who 98 = .ok (.iload_n 1, 1) := by decide +kernel
theorem dX7_who_99 : decode cX7_who 99 = .ok (.invokevirtual 248, 3) := by decide +kernel
theorem dX7_who_102 : decode cX7_who 102 = .ok (.invokevirtual 79, 3) := by decide +kernel
theorem dX7_who_105 : decode cX7_who 105 = .ok (.ireturn, 1) := by decide +kernel
theorem dX7_who_106 : decode cX7_who 106 = .ok (.aload_n 0, 1) := by decide +kernel
theorem dX7_who_107 : decode cX7_who 107 = .ok (.iload_n 2, 1) := by decide +kernel
theorem dX7_who_108 : decode cX7_who 108 = .ok (.iconst 1, 1) := by decide +kernel
theorem dX7_who_109 : decode cX7_who 109 = .ok (.if_icmp .ne 18, 3) := by decide +kernel
theorem dX7_who_112 : decode cX7_who 112 = .ok (.aload_n 0, 1) := by decide +kernel
theorem dX7_who_113 : decode cX7_who 113 = .ok (.getfield 43, 3) := by decide +kernel
theorem dX7_who_116 : decode cX7_who 116 = .ok (.aload_n 0, 1) := by decide +kernel
theorem dX7_who_117 : decode cX7_who 117 = .ok (.getfield 25, 3) := by decide +kernel
theorem dX7_who_120 : decode cX7_who 120 = .ok (.iload_n 1, 1) := by decide +kernel
theorem dX7_who_121 : decode cX7_who 121 = .ok (.invokevirtual 251, 3) := by decide +kernel
theorem dX7_who_124 : decode cX7_who 124 = .ok (.goto 16, 3) := by decide +kernel
theorem dX7_who_127 : decode cX7_who 127 = .ok (.aload_n 0, 1) := by decide +kernel
theorem dX7_who_128 : decode cX7_who 128 = .ok (.getfield 43, 3) := by decide +kernel
theorem dX7_who_131 : decode cX7_who 131 = .ok (.aload_n 0, 1) := by decide +kernel
theorem dX7_who_132 : decode cX7_who 132 = .ok (.getfield 25, 3) := by decide +kernel
theorem dX7_who_135 : decode cX7_who 135 = .ok (.iload_n 1, 1) := by decide +kernel
theorem dX7_who_136 : decode cX7_who 136 = .ok (.iload_n 2, 1) := by decide +kernel
theorem dX7_who_137 : decode cX7_who 137 = .ok (.invokevirtual 254, 3) := by decide +kernel
theorem dX7_who_140 : decode cX7_who 140 = .ok (.invokevirtual 79, 3) := by decide +kernel
theorem dX7_who_143 : decode cX7_who 143 = .ok (.ireturn, 1) := by decide +kernel
theorem dX7_finger_0 : decode cX7_finger 0 = .ok (.aload_n 0, 1) := by decide +kernel
theorem dX7_finger_1 : decode cX7_finger 1 = .ok (.iload_n 1, 1) := by decide +kernel
theorem dX7_finger_2 : decode cX7_finger 2 = .ok (.invokevirtual 166, 3) := by decide +kernel
theorem dX7_finger_5 : decode cX7_finger 5 = .ok (.ifCond .eq 21, 3) := by decide +kernel
theorem dX7_finger_8 : decode cX7_finger 8 = .ok (.iload_n 2, 1) := by decide +kernel
theorem dX7_finger_9 : decode cX7_finger 9 = .ok (.invokestatic 62, 3) := by decide +kernel
theorem dX7_finger_12 : decode cX7_finger 12 = .ok (.ifCond .eq 14, 3) := by decide +kernel
theorem dX7_finger_15 : decode cX7_finger 15 = .ok (.iload 4, 2) := by decide +kernel
theorem dX7_finger_17 : decode cX7_finger 17 = .ok (.iconst 1, 1) := by decide +kernel
theorem dX7_finger_18 : decode cX7_finger 18 = .ok (.bipush 12, 2) := by decide +kernel
theorem dX7_finger_20 : decode cX7_finger 20 = .ok (.invokestatic 66, 3) := by decide +kernel
theorem dX7_finger_23 : decode cX7_finger 23 = .ok (.ifCond .ne 6, 3) := by decide +kernel
theorem dX7_finger_26 : decode cX7_finger 26 = .ok (.ldc 70, 2) := by decide +kernel
theorem dX7_finger_28 : decode cX7_finger 28 = .ok (.ireturn, 1) := by decide +kernel
theorem dX7_finger_29 : decode cX7_finger 29 = .ok (.aload_n 0, 1) := by decide +kernel
theorem dX7_finger_30 : decode cX7_finger 30 = .ok (.getfield 11, 3) := by decide +kernel
theorem dX7_finger_33 : decode cX7_finger 33 = .ok (.iload_n 2, 1) := by decide +kernel
theorem dX7_finger_34 : decode cX7_finger 34 = .ok (.aaload, 1) := by decide +kernel
theorem dX7_finger_35 : decode cX7_finger 35 = .ok (.iload_n 3, 1) := by decide +kernel
theorem dX7_finger_36 : decode cX7_finger 36 = .ok (.iload 4, 2) := by decide +kernel
theorem dX7_finger_38 : decode cX7_finger 38 = .ok (.invokevirtual 82, 3) := by decide +kernel
theorem dX7_finger_41 : decode cX7_finger 41 = .ok (.istore 5, 2) := by decide +kernel
theorem dX7_finger_43 : decode cX7_finger 43 = .ok (.iload 5, 2) := by decide +kernel
theorem dX7_finger_45 : decode cX7_finger 45 = .ok (.ifCond .eq 10, 3) := by decide +kernel
theorem dX7_finger_48 : decode cX7_finger 48 = .ok (.aload_n 0, 1) := by decide +kernel
theorem dX7_finger_49 : decode cX7_finger 49 = .ok (.iload 5, 2) := by decide +kernel
theorem dX7_finger_51 : decode cX7_finger 51 = .ok (.invokevirtual 71, 3) := by decide +kernel
theorem dX7_finger_54 : decode cX7_finger 54 = .ok (.ireturn, 1) := by decide +kernel
theorem dX7_finger_55 : decode cX7_finger 55 = .ok (.aload_n 0, 1) := by decide +kernel
theorem dX7_finger_56 : decode cX7_finger 56 = .ok (.getfield 43, 3) := by decide +kernel
theorem dX7_finger_59 : decode cX7_finger 59 = .ok (.aload_n 0, 1) := by decide +kernel
theorem dX7_finger_60 : decode cX7_finger 60 = .ok (.getfield 11, 3) := by decide +kernel
theorem dX7_finger_63 : decode cX7_finger 63 = .ok (.iload_n 2, 1) := by decide +kernel
theorem dX7_finger_64 : decode cX7_finger 64 = .ok (.aaload, 1) := by decide +kernel
theorem dX7_finger_65 : decode cX7_finger 65 = .ok (.getfield 93, 3) := by decide +kernel
theorem dX7_finger_68 : decode cX7_finger 68 = .ok (.iload_n 3, 1) := by decide +kernel
theorem dX7_finger_69 : decode cX7_finger 69 = .ok (.iload 4, 2) := by decide +kernel
theorem dX7_finger_71 : decode cX7_finger 71 = .ok (.invokevirtual 244, 3) := by decide +kernel
theorem dX7_finger_74 : decode cX7_finger 74 = .ok (.aload_n 0, 1) := by decide +kernel
theorem dX7_finger_75 : decode cX7_finger 75 = .ok (.aload_n 0, 1) := by decide +kernel
theorem dX7_finger_76 : decode cX7_finger 76 = .ok (.getfield 43, 3) := by decide +kernel
theorem dX7_finger_79 : decode cX7_finger 79 = .ok (.aload_n 0, 1) := by decide +kernel
theorem dX7_finger_80 : decode cX7_finger 80 = .ok (.getfield 25, 3) := by decide +kernel
theorem dX7_finger_83 : decode cX7_finger 83 = .ok (.iload_n 1, 1) := by decide +kernel
theorem dX7_finger_84 : decode cX7_finger 84 = .ok (.invokevirtual 257, 3) := by decide +kernel
theorem dX7_finger_87 : decode cX7_finger 87 = .ok (.invokevirtual 79, 3) := by decide +kernel
theorem dX7_finger_90 : decode cX7_finger 90 = .ok (.ireturn, 1) := by decide +kernel
theorem dX7_lashes_0 : decode cX7_lashes 0 = .ok (.aload_n 0, 1) := by decide +kernel
theorem dX7_lashes_1 : decode cX7_lashes 1 = .ok (.iload_n 1, 1) := by decide +kernel
theorem dX7_lashes_2 : decode cX7_lashes 2 = .ok (.invokevirtual 166, 3) := by decide +kernel
theorem dX7_lashes_5 : decode cX7_lashes 5 = .ok (.ifCond .eq 29, 3) := by decide +kernel
theorem dX7_lashes_8 : decode cX7_lashes 8 = .ok (.aload_n 0, 1) := by decide +kernel
theorem dX7_lashes_9 : decode cX7_lashes 9 = .ok (.iload_n 2, 1) := by decide +kernel
theorem dX7_lashes_10 : decode cX7_lashes 10 = .ok (.invokevirtual 166, 3) := by decide +kernel
theorem dX7_lashes_13 : decode cX7_lashes 13 = .ok (.ifCond .eq 21, 3) := by decide +kernel
theorem dX7_lashes_16 : decode cX7_lashes 16 = .ok (.iload_n 3, 1) := by decide +kernel
theorem dX7_lashes_17 : decode cX7_lashes 17 = .ok (.invokestatic 62, 3) := by decide +kernel
theorem dX7_lashes_20 : decode cX7_lashes 20 = .ok (.ifCond .eq 14, 3) := by decide +kernel
theorem dX7_lashes_23 : decode cX7_lashes 23 = .ok (.iload 5, 2) := by decide +kernel
theorem dX7_lashes_25 : decode cX7_lashes 25 = .ok (.iconst 1, 1) := by decide +kernel
theorem dX7_lashes_26 : decode cX7_lashes 26 = .ok (.bipush 12, 2) := by decide +kernel
theorem dX7_lashes_28 : decode cX7_lashes 28 = .ok (.invokestatic 66, 3) := by decide +kernel
theorem dX7_lashes_31 : decode cX7_lashes 31 = .ok (.ifCond .ne 6, 3) := by decide +kernel
theorem dX7_lashes_34 : decode cX7_lashes 34 = .ok (.ldc 70, 2) := by decide +kernel
theorem dX7_lashes_36 : decode cX7_lashes 36 = .ok (.ireturn, 1) := by decide +kernel
theorem dX7_lashes_37 : decode cX7_lashes 37 = .ok (.aload_n 0, 1) := by decide +kernel
theorem dX7_lashes_38 : decode cX7_lashes 38 = .ok (.getfield 25, 3) := by decide +kernel
theorem dX7_lashes_41 : decode cX7_lashes 41 = .ok (.getfield 169, 3) := by decide +kernel
theorem dX7_lashes_44 : decode cX7_lashes 44 = .ok (.iload_n 2, 1) := by decide +kernel
theorem dX7_lashes_45 : decode cX7_lashes 45 = .ok (.iaload, 1) := by decide +kernel
theorem dX7_lashes_46 : decode cX7_lashes 46 = .ok (.ifCond .ne 6, 3) := by decide +kernel
theorem dX7_lashes_49 : decode cX7_lashes 49 = .ok (.ldc 145, 2) := by decide +kernel
theorem dX7_lashes_51 : decode cX7_lashes 51 = .ok (.ireturn, 1) := by decide +kernel
theorem dX7_lashes_52 : decode cX7_lashes 52 = .ok (.aload_n 0, 1) := by decide +kernel
theorem dX7_lashes_53 : decode cX7_lashes 53 = .ok (.getfield 11, 3) := by decide +kernel
theorem dX7_lashes_56 : decode cX7_lashes 56 = .ok (.iload_n 3, 1) := by decide +kernel
theorem dX7_lashes_57 : decode cX7_lashes 57 = .ok (.aaload, 1) := by decide +kernel
theorem dX7_lashes_58 : decode cX7_lashes 58 = .ok (.iload 4, 2) := by decide +kernel
theorem dX7_lashes_60 : decode cX7_lashes 60 = .ok (.iload 5, 2) := by decide +kernel
theorem dX7_lashes_62 : decode cX7_lashes 62 = .ok (.invokevirtual 82, 3) := by decide +kernel
theorem dX7_lashes_65 : decode cX7_lashes 65 = .ok (.istore 6, 2) := by decide +kernel
theorem dX7_lashes_67 : decode cX7_lashes 67 = .ok (.iload 6, 2) := by decide +kernel
theorem dX7_lashes_69 : decode cX7_lashes 69 = .ok (.ifCond .eq 10, 3) := by decide +kernel
theorem dX7_lashes_72 : decode cX7_lashes 72 = .ok (.aload_n 0, 1) := by decide +kernel
theorem dX7_lashes_73 : decode cX7_lashes 73 = .ok (.iload 6, 2) := by decide +kernel
theorem dX7_lashes_75 : decode cX7_lashes 75 = .ok (.invokevirtual 71, 3) := by decide +kernel
theorem dX7_lashes_78 : decode cX7_lashes 78 = .ok (.ireturn, 1) := by decide +kernel
theorem dX7_lashes_79 : decode cX7_lashes 79 = .ok (.aload_n 0, 1) := by decide +kernel
theorem dX7_lashes_80 : decode cX7_lashes 80 = .ok (.getfield 43, 3) := by decide +kernel
theorem dX7_lashes_83 : decode cX7_lashes 83 = .ok (.aload_n 0, 1) := by decide +kernel
theorem dX7_lashes_84 : decode cX7_lashes 84 = .ok (.getfield 11, 3) := by decide +kernel
theorem dX7_lashes_87 : decode cX7_lashes 87 = .ok (.iload_n 3, 1) := by decide +kernel
theorem dX7_lashes_88 : decode cX7_lashes 88 = .ok (.aaload, 1) := by decide +kernel
theorem dX7_lashes_89 : decode cX7_lashes 89 = .ok (.getfield 93, 3) := by decide +kernel
theorem dX7_lashes_92 : decode cX7_lashes 92 = .ok (.iload 4, 2) := by decide +kernel
theorem dX7_lashes_94 : decode cX7_lashes 94 = .ok (.iload 5, 2) := by decide +kernel
theorem dX7_lashes_96 : decode cX7_lashes 96 = .ok (.invokevirtual 244, 3) := by decide +kernel
theorem dX7_lashes_99 : decode cX7_lashes 99 = .ok (.aload_n 0, 1) := by decide +kernel
theorem dX7_lashes_100 : decode cX7_lashes 100 = .ok (.aload_n 0, 1) := by decide +kernel
theorem dX7_lashes_101 : decode cX7_lashes 101 = .ok (.getfield 43, 3) := by decide +kernel
theorem dX7_lashes_104 : decode cX7_lashes 104 = .ok (.aload_n 0, 1) := by decide +kernel
theorem dX7_lashes_105 : decode cX7_lashes 105 = .ok (.getfield 25, 3) := by decide +kernel
theorem dX7_lashes_108 : decode cX7_lashes 108 = .ok (.iload_n 1, 1) := by decide +kernel
theorem dX7_lashes_109 : decode cX7_lashes 109 = .ok (.iload_n 2, 1) := by decide +kernel
theorem dX7_lashes_110 : decode cX7_lashes 110 = .ok (.invokevirtual 260, 3) := by decide +kernel
theorem dX7_lashes_113 : decode cX7_lashes 113 = .ok (.invokevirtual 79, 3) := by decide +kernel
theorem dX7_lashes_116 : decode cX7_lashes 116 = .ok (.ireturn, 1) := by decide +kernel
theorem dX7_crack_0 : decode cX7_crack 0 = .ok (.aload_n 0, 1) := by decide +kernel
theorem dX7_crack_1 : decode cX7_crack 1 = .ok (.iload_n 1, 1) := by decide +kernel
theorem dX7_crack_2 : decode cX7_crack 2 = .ok (.invokevirtual 166, 3) := by decide +kernel
theorem dX7_crack_5 : decode cX7_crack 5 = .ok (.ifCond .eq 33, 3) := by decide +kernel
theorem dX7_crack_8 : decode cX7_crack 8 = .ok (.iload_n 2, 1) := by decide +kernel
theorem dX7_crack_9 : decode cX7_crack 9 = .ok (.iconst 0, 1) := by decide +kernel
theorem dX7_crack_10 : decode cX7_crack 10 = .ok (.bipush 30, 2) := by decide +kernel
theorem dX7_crack_12 : decode cX7_crack 12 = .ok (.invokestatic 66, 3) := by decide +kernel
theorem dX7_crack_15 : decode cX7_crack 15 = .ok (.ifCond .eq 23, 3) := by decide +kernel
theorem dX7_crack_18 : decode cX7_crack 18 = .ok (.iload_n 3, 1) := by decide +kernel
theorem dX7_crack_19 : decode cX7_crack 19 = .ok (.iconst 0, 1) := by decide +kernel
theorem dX7_crack_20 : decode cX7_crack 20 = .ok (.bipush 10, 2) := by decide +kernel
theorem dX7_crack_22 : decode cX7_crack 22 = .ok (.invokestatic 66, 3) := by decide +kernel
theorem dX7_crack_25 : decode cX7_crack 25 = .ok (.ifCond .eq 13, 3) := by decide +kernel
theorem dX7_crack_28 : decode cX7_crack 28 = .ok (.iload 4, 2) := by decide +kernel
theorem dX7_crack_30 : decode cX7_crack 30 = .ok (.iconst 0, 1) := by decide +kernel
theorem dX7_crack_31 : decode cX7_crack 31 = .ok (.iconst 1, 1) := by decide +kernel
theorem dX7_crack_32 : decode cX7_crack 32 = .ok (.invokestatic 66, 3) := by decide +kernel
theorem dX7_crack_35 : decode cX7_crack 35 = .ok (.ifCond .ne 7, 3) := by decide +kernel
theorem dX7_crack_38 : decode cX7_crack 38 = .ok (.ldc2_w 263, 3) := by decide +kernel
theorem dX7_crack_41 : decode cX7_crack 41 = .ok (.lreturn, 1) := by decide +kernel
theorem dX7_crack_42 : decode cX7_crack 42 = .ok (.aload_n 0, 1) := by decide +kernel
theorem dX7_crack_43 : decode cX7_crack 43 = .ok (.getfield 43, 3) := by decide +kernel
theorem dX7_crack_46 : decode cX7_crack 46 = .ok (.aload_n 0, 1) := by decide +kernel
theorem dX7_crack_47 : decode cX7_crack 47 = .ok (.getfield 25, 3) := by decide +kernel
theorem dX7_crack_50 : decode cX7_crack 50 = .ok (.iload_n 1, 1) := by decide +kernel
theorem dX7_crack_51 : decode cX7_crack 51 = .ok (.iload_n 2, 1) := by decide +kernel
theorem dX7_crack_52 : decode cX7_crack 52 = .ok (.iload_n 3, 1) := by decide +kernel
theorem dX7_crack_53 : decode cX7_crack 53 = .ok (.iload 4, 2) := by decide +kernel
theorem dX7_crack_55 : decode cX7_crack 55 = .ok (.invokevirtual 265, 3) := by decide +kernel
theorem dX7_crack_58 : decode cX7_crack 58 = .ok (.lreturn, 1) := by decide +kernel
theorem dX7_drawn_0 : decode cX7_drawn 0 = .ok (.aload_n 0, 1) := by decide +kernel
theorem dX7_drawn_1 : decode cX7_drawn 1 = .ok (.invokevirtual 149, 3) := by decide +kernel
theorem dX7_drawn_4 : decode cX7_drawn 4 = .ok (.ifCond .eq 6, 3) := by decide +kernel
theorem dX7_drawn_7 : decode cX7_drawn 7 = .ok (.ldc 145, 2) := by decide +kernel
theorem dX7_drawn_9 : decode cX7_drawn 9 = .ok (.ireturn, 1) := by decide +kernel
theorem dX7_drawn_10 : decode cX7_drawn 10 = .ok (.iload_n 1, 1) := by decide +kernel
theorem dX7_drawn_11 : decode cX7_drawn 11 = .ok (.iconst 0, 1) := by decide +kernel
theorem dX7_drawn_12 : decode cX7_drawn 12 = .ok (.bipush 60, 2) := by decide +kernel
theorem dX7_drawn_14 : decode cX7_drawn 14 = .ok (.invokestatic 66, 3) := by decide +kernel
theorem dX7_drawn_17 : decode cX7_drawn 17 = .ok (.ifCond .eq 23, 3) := by decide +kernel
theorem dX7_drawn_20 : decode cX7_drawn 20 = .ok (.iload_n 2, 1) := by decide +kernel
theorem dX7_drawn_21 : decode cX7_drawn 21 = .ok (.iconst 1, 1) := by decide +kernel
theorem dX7_drawn_22 : decode cX7_drawn 22 = .ok (.ldc_w 269, 3) := by decide +kernel
theorem dX7_drawn_25 : decode cX7_drawn 25 = .ok (.invokestatic 66, 3) := by decide +kernel
theorem dX7_drawn_28 : decode cX7_drawn 28 = .ok (.ifCond .eq 12, 3) := by decide +kernel
theorem dX7_drawn_31 : decode cX7_drawn 31 = .ok (.iload_n 3, 1) := by decide +kernel
theorem dX7_drawn_32 : decode cX7_drawn 32 = .ok (.iconst 0, 1) := by decide +kernel
theorem dX7_drawn_33 : decode cX7_drawn 33 = .ok (.iconst 1, 1) := by decide +kernel
theorem dX7_drawn_34 : decode cX7_drawn 34 = .ok (.invokestatic 66, 3) := by decide +kernel
theorem dX7_drawn_37 : decode cX7_drawn 37 = .ok (.ifCond .ne 6, 3) := by decide +kernel
theorem dX7_drawn_40 : decode cX7_drawn 40 = .ok (.ldc 70, 2) := by decide +kernel
theorem dX7_drawn_42 : decode cX7_drawn 42 = .ok (.ireturn, 1) := by decide +kernel
theorem dX7_drawn_43 : decode cX7_drawn 43 = .ok (.aload_n 0, 1) := by decide +kernel
theorem dX7_drawn_44 : decode cX7_drawn 44 = .ok (.getfield 43, 3) := by decide +kernel
theorem dX7_drawn_47 : decode cX7_drawn 47 = .ok (.aload_n 0, 1) := by decide +kernel
theorem dX7_drawn_48 : decode cX7_drawn 48 = .ok (.getfield 25, 3) := by decide +kernel
theorem dX7_drawn_51 : decode cX7_drawn 51 = .ok (.iload_n 1, 1) := by decide +kernel
theorem dX7_drawn_52 : decode cX7_drawn 52 = .ok (.iload_n 2, 1) := by decide +kernel
theorem dX7_drawn_53 : decode cX7_drawn 53 = .ok (.invokevirtual 270, 3) := by decide +kernel
theorem dX7_drawn_56 : decode cX7_drawn 56 = .ok (.astore 4, 2) := by decide +kernel
theorem dX7_drawn_58 : decode cX7_drawn 58 = .ok (.iload_n 3, 1) := by decide +kernel
theorem dX7_drawn_59 : decode cX7_drawn 59 = .ok (.ifCond .ne 11, 3) := by decide +kernel
theorem dX7_drawn_62 : decode cX7_drawn 62 = .ok (.aload 4, 2) := by decide +kernel
theorem dX7_drawn_64 : decode cX7_drawn 64 = .ok (.invokevirtual 162, 3) := by decide +kernel
theorem dX7_drawn_67 : decode cX7_drawn 67 = .ok (.goto 8, 3) := by decide +kernel
theorem dX7_drawn_70 : decode cX7_drawn 70 = .ok (.aload 4, 2) := by decide +kernel
theorem dX7_drawn_72 : decode cX7_drawn 72 = .ok (.invokevirtual 196, 3) := by decide +kernel
theorem dX7_drawn_75 : decode cX7_drawn 75 = .ok (.ireturn, 1) := by decide +kernel
theorem dX7_image_0 : decode cX7_image 0 = .ok (.iload_n 1, 1) := by decide +kernel
theorem dX7_image_1 : decode cX7_image 1 = .ok (.iconst 0, 1) := by decide +kernel
theorem dX7_image_2 : decode cX7_image 2 = .ok (.iconst 1, 1) := by decide +kernel
theorem dX7_image_3 : decode cX7_image 3 = .ok (.invokestatic 66, 3) := by decide +kernel
theorem dX7_image_6 : decode cX7_image 6 = .ok (.ifCond .ne 6, 3) := by decide +kernel
theorem dX7_image_9 : decode cX7_image 9 = .ok (.ldc 70, 2) := by decide +kernel
theorem dX7_image_11 : decode cX7_image 11 = .ok (.ireturn, 1) := by decide +kernel
theorem dX7_image_12 : decode cX7_image 12 = .ok (.aload_n 0, 1) := by decide +kernel
theorem dX7_image_13 : decode cX7_image 13 = .ok (.invokevirtual 149, 3) := by decide +kernel
theorem dX7_image_16 : decode cX7_image 16 = .ok (.ifCond .eq 6, 3) := by decide +kernel
theorem dX7_image_19 : decode cX7_image 19 = .ok (.ldc 145, 2) := by decide +kernel
theorem dX7_image_21 : decode cX7_image 21 = .ok (.ireturn, 1) := by decide +kernel
theorem dX7_image_22 : decode cX7_image 22 = .ok (.aload_n 0, 1) := by decide +kernel
theorem dX7_image_23 : decode cX7_image 23 = .ok (.getfield 29, 3) := by decide +kernel
theorem dX7_image_26 : decode cX7_image 26 = .ok (.iload_n 1, 1) := by decide +kernel
theorem dX7_image_27 : decode cX7_image 27 = .ok (.aaload, 1) := by decide +kernel
theorem dX7_image_28 : decode cX7_image 28 = .ok (.aload_n 0, 1) := by decide +kernel
theorem dX7_image_29 : decode cX7_image 29 = .ok (.getfield 25, 3) := by decide +kernel
theorem dX7_image_32 : decode cX7_image 32 = .ok (.invokevirtual 134, 3) := by decide +kernel
theorem dX7_image_35 : decode cX7_image 35 = .ok (.iconst 1, 1) := by decide +kernel
theorem dX7_image_36 : decode cX7_image 36 = .ok (.ireturn, 1) := by decide +kernel
theorem dX7_restore_0 : decode cX7_restore 0 = .ok (.iload_n 1, 1) := by decide +kernel
theorem dX7_restore_1 : decode cX7_restore 1 = .ok (.iconst 0, 1) := by decide +kernel
theorem dX7_restore_2 : decode cX7_restore 2 = .ok (.iconst 1, 1) := by decide +kernel
theorem dX7_restore_3 : decode cX7_restore 3 = .ok (.invokestatic 66, 3) := by decide +kernel
theorem dX7_restore_6 : decode cX7_restore 6 = .ok (.ifCond .ne 6, 3) := by decide +kernel
theorem dX7_restore_9 : decode cX7_restore 9 = .ok (.ldc 70, 2) := by decide +kernel
theorem dX7_restore_11 : decode cX7_restore 11 = .ok (.ireturn, 1) := by decide +kernel
theorem dX7_restore_12 : decode cX7_restore 12 = .ok (.aload_n 0, 1) := by decide +kernel
theorem dX7_restore_13 : decode cX7_restore 13 = .ok (.getfield 29, 3) := by decide +kernel
theorem dX7_restore_16 : decode cX7_restore 16 = .ok (.iload_n 1, 1) := by decide +kernel
theorem dX7_restore_17 : decode cX7_restore 17 = .ok (.aaload, 1) := by decide +kernel
theorem dX7_restore_18 : decode cX7_restore 18 = .ok (.getfield 141, 3) := by decide +kernel
theorem dX7_restore_21 : decode cX7_restore 21 = .ok (.ifCond .ne 6, 3) := by decide +kernel
theorem dX7_restore_24 : decode cX7_restore 24 = .ok (.ldc 145, 2) := by decide +kernel
theorem dX7_restore_26 : decode cX7_restore 26 = .ok (.ireturn, 1) := by decide +kernel
theorem dX7_restore_27 : decode cX7_restore 27 = .ok (.aload_n 0, 1) := by decide +kernel
theorem dX7_restore_28 : decode cX7_restore 28 = .ok (.getfield 25, 3) := by decide +kernel
theorem dX7_restore_31 : decode cX7_restore 31 = .ok (.aload_n 0, 1) := by decide +kernel
theorem dX7_restore_32 : decode cX7_restore 32 = .ok (.getfield 29, 3) := by decide +kernel
theorem dX7_restore_35 : decode cX7_restore 35 = .ok (.iload_n 1, 1) := by decide +kernel
theorem dX7_restore_36 : decode cX7_restore 36 = .ok (.aaload, 1) := by decide +kernel
theorem dX7_restore_37 : decode cX7_restore 37 = .ok (.invokevirtual 134, 3) := by decide +kernel
theorem dX7_restore_40 : decode cX7_restore 40 = .ok (.aload_n 0, 1) := by decide +kernel
theorem dX7_restore_41 : decode cX7_restore 41 = .ok (.getfield 36, 3) := by decide +kernel
theorem dX7_restore_44 : decode cX7_restore 44 = .ok (.invokevirtual 138, 3) := by decide +kernel
theorem dX7_restore_47 : decode cX7_restore 47 = .ok (.iconst 1, 1) := by decide +kernel
theorem dX7_restore_48 : decode cX7_restore 48 = .ok (.ireturn, 1) := by decide +kernel
theorem dX7_kind_0 : decode cX7_kind 0 = .ok (.aload_n 0, 1) := by decide +kernel
theorem dX7_kind_1 : decode cX7_kind 1 = .ok (.iload_n 1, 1) := by decide +kernel
theorem dX7_kind_2 : decode cX7_kind 2 = .ok (.invokevirtual 166, 3) := by decide +kernel
theorem dX7_kind_5 : decode cX7_kind 5 = .ok (.ifCond .eq 15, 3) := by decide +kernel
theorem dX7_kind_8 : decode cX7_kind 8 = .ok (.aload_n 0, 1) := by decide +kernel
theorem dX7_kind_9 : decode cX7_kind 9 = .ok (.getfield 25, 3) := by decide +kernel
theorem dX7_kind_12 : decode cX7_kind 12 = .ok (.getfield 274, 3) := by decide +kernel
theorem dX7_kind_15 : decode cX7_kind 15 = .ok (.iload_n 1, 1) := by decide +kernel
theorem dX7_kind_16 : decode cX7_kind 16 = .ok (.iaload, 1) := by decide +kernel
theorem dX7_kind_17 : decode cX7_kind 17 = .ok (.goto 5, 3) := by decide +kernel
theorem dX7_kind_20 : decode cX7_kind 20 = .ok (.ldc 70, 2) := by decide +kernel
theorem dX7_kind_22 : decode cX7_kind 22 = .ok (.ireturn, 1) := by decide +kernel
theorem dX7_as_0 : decode cX7_as 0 = .ok (.aload_n 0, 1) := by decide +kernel
theorem dX7_as_1 : decode cX7_as 1 = .ok (.iload_n 1, 1) := by decide +kernel
theorem dX7_as_2 : decode cX7_as 2 = .ok (.invokevirtual 166, 3) := by decide +kernel
theorem dX7_as_5 : decode cX7_as 5 = .ok (.ifCond .eq 12, 3) := by decide +kernel
theorem dX7_as_8 : decode cX7_as 8 = .ok (.iload_n 2, 1) := by decide +kernel
theorem dX7_as_9 : decode cX7_as 9 = .ok (.iconst 0, 1) := by decide +kernel
theorem dX7_as_10 : decode cX7_as 10 = .ok (.iconst 5, 1) := by decide +kernel
theorem dX7_as_11 : decode cX7_as 11 = .ok (.invokestatic 66, 3) := by decide +kernel
theorem dX7_as_14 : decode cX7_as 14 = .ok (.ifCond .ne 6, 3) := by decide +kernel
theorem dX7_as_17 : decode cX7_as 17 = .ok (.ldc 70, 2) := by decide +kernel
theorem dX7_as_19 : decode cX7_as 19 = .ok (.ireturn, 1) := by decide +kernel
theorem dX7_as_20 : decode cX7_as 20 = .ok (.aload_n 0, 1) := by decide +kernel
theorem dX7_as_21 : decode cX7_as 21 = .ok (.getfield 25, 3) := by decide +kernel
theorem dX7_as_24 : decode cX7_as 24 = .ok (.getfield 274, 3) := by decide +kernel
theorem dX7_as_27 : decode cX7_as 27 = .ok (.iload_n 1, 1) := by decide +kernel
theorem dX7_as_28 : decode cX7_as 28 = .ok (.iaload, 1) := by decide +kernel
theorem dX7_as_29 : decode cX7_as 29 = .ok (.iload_n 2, 1) := by decide +kernel
theorem dX7_as_30 : decode cX7_as 30 = .ok (.invokestatic 277, 3) := by decide +kernel
theorem dX7_as_33 : decode cX7_as 33 = .ok (.ifCond .eq 11, 3) := by decide +kernel
theorem dX7_as_36 : decode cX7_as 36 = .ok (.aload_n 0, 1) := by decide +kernel
theorem dX7_as_37 : decode cX7_as 37 = .ok (.iload_n 1, 1) := by decide +kernel
theorem dX7_as_38 : decode cX7_as 38 = .ok (.invokevirtual 79, 3) := by decide +kernel
theorem dX7_as_41 : decode cX7_as 41 = .ok (.goto 8, 3) := by decide +kernel
theorem dX7_as_44 : decode cX7_as 44 = .ok (.aload_n 0, 1) := by decide +kernel
theorem dX7_as_45 : decode cX7_as 45 = .ok (.iconst 3, 1) := by decide +kernel
theorem dX7_as_46 : decode cX7_as 46 = .ok (.invokevirtual 71, 3) := by decide +kernel
theorem dX7_as_49 : decode cX7_as 49 = .ok (.ireturn, 1) := by decide +kernel
theorem dX7_ask_0 : decode cX7_ask 0 = .ok (.aload_n 0, 1) := by decide +kernel
theorem dX7_ask_1 : decode cX7_ask 1 = .ok (.iload_n 1, 1) := by decide +kernel
theorem dX7_ask_2 : decode cX7_ask 2 = .ok (.invokevirtual 166, 3) := by decide +kernel
theorem dX7_ask_5 : decode cX7_ask 5 = .ok (.ifCond .eq 12, 3) := by decide +kernel
theorem dX7_ask_8 : decode cX7_ask 8 = .ok (.iload_n 2, 1) := by decide +kernel
theorem dX7_ask_9 : decode cX7_ask 9 = .ok (.iconst 0, 1) := by decide +kernel
theorem dX7_ask_10 : decode cX7_ask 10 = .ok (.iconst 1, 1) := by decide +kernel
theorem dX7_ask_11 : decode cX7_ask 11 = .ok (.invokestatic 66, 3) := by decide +kernel
theorem dX7_ask_14 : decode cX7_ask 14 = .ok (.ifCond .ne 6, 3) := by decide +kernel
theorem dX7_ask_17 : decode cX7_ask 17 = .ok (.ldc 70, 2) := by decide +kernel
theorem dX7_ask_19 : decode cX7_ask 19 = .ok (.ireturn, 1) := by decide +kernel
theorem dX7_ask_20 : decode cX7_ask 20 = .ok (.aload_n 0, 1) := by decide +kernel
theorem dX7_ask_21 : decode cX7_ask 21 = .ok (.getfield 57, 3) := by decide +kernel
theorem dX7_ask_24 : decode cX7_ask 24 = .ok (.aload_n 0, 1) := by decide +kernel
theorem dX7_ask_25 : decode cX7_ask 25 = .ok (.getfield 25, 3) := by decide +kernel
theorem dX7_ask_28 : decode cX7_ask 28 = .ok (.iload_n 1, 1) := by decide +kernel
theorem dX7_ask_29 : decode cX7_ask 29 = .ok (.invokevirtual 281, 3) := by decide +kernel
theorem dX7_ask_32 : decode cX7_ask 32 = .ok (.iload_n 2, 1) := by decide +kernel
theorem dX7_ask_33 : decode cX7_ask 33 = .ok (.ifCond .ne 13, 3) := by decide +kernel
theorem dX7_ask_36 : decode cX7_ask 36 = .ok (.aload_n 0, 1) := by decide +kernel
theorem dX7_ask_37 : decode cX7_ask 37 = .ok (.getfield 57, 3) := by decide +kernel
theorem dX7_ask_40 : decode cX7_ask 40 = .ok (.invokevirtual 285, 3) := by decide +kernel
theorem dX7_ask_43 : decode cX7_ask 43 = .ok (.goto 10, 3) := by decide +kernel
theorem dX7_ask_46 : decode cX7_ask 46 = .ok (.aload_n 0, 1) := by decide +kernel
theorem dX7_ask_47 : decode cX7_ask 47 = .ok (.getfield 57, 3) := by decide +kernel
theorem dX7_ask_50 : decode cX7_ask 50 = .ok (.invokevirtual 287, 3) := by decide +kernel
theorem dX7_ask_53 : decode cX7_ask 53 = .ok (.ireturn, 1) := by decide +kernel
theorem dX7_trace_0 : decode cX7_trace 0 = .ok (.iload_n 1, 1) := by decide +kernel
theorem dX7_trace_1 : decode cX7_trace 1 = .ok (.iconst 0, 1) := by decide +kernel
theorem dX7_trace_2 : decode cX7_trace 2 = .ok (.aload_n 0, 1) := by decide +kernel
theorem dX7_trace_3 : decode cX7_trace 3 = .ok (.getfield 57, 3) := by decide +kernel
theorem dX7_trace_6 : decode cX7_trace 6 = .ok (.getfield 290, 3) := by decide +kernel
theorem dX7_trace_9 : decode cX7_trace 9 = .ok (.iconst 1, 1) := by decide +kernel
theorem dX7_trace_10 : decode cX7_trace 10 = .ok (.isub, 1) := by decide +kernel
theorem dX7_trace_11 : decode cX7_trace 11 = .ok (.invokestatic 66, 3) := by decide +kernel
theorem dX7_trace_14 : decode cX7_trace 14 = .ok (.ifCond .eq 15, 3) := by decide +kernel
theorem dX7_trace_17 : decode cX7_trace 17 = .ok (.aload_n 0, 1) := by decide +kernel
theorem dX7_trace_18 : decode cX7_trace 18 = .ok (.getfield 57, 3) := by decide +kernel
theorem dX7_trace_21 : decode cX7_trace 21 = .ok (.getfield 293, 3) := by decide +kernel
theorem dX7_trace_24 : decode cX7_trace 24 = .ok (.iload_n 1, 1) := by decide +kernel
theorem dX7_trace_25 : decode cX7_trace 25 = .ok (.iaload, 1) := by decide +kernel
theorem dX7_trace_26 : decode cX7_trace 26 = .ok (.goto 5, 3) := by decide +kernel
theorem dX7_trace_29 : decode cX7_trace 29 = .ok (.ldc 214, 2) := by decide +kernel
theorem dX7_trace_31 : decode cX7_trace 31 = .ok (.ireturn, 1) := by decide +kernel
theorem dX7_count_0 : decode cX7_count 0 = .ok (.iload_n 1, 1) := by decide +kernel
theorem dX7_count_1 : decode cX7_count 1 = .ok (.tableswitch 111 0 7 #[47, 52, 60, 68, 79, 87, 95, 103], 47) := by decide +kernel
theorem dX7_count_48 : decode cX7_count 48 = .ok (.aload_n 0, 1) := by decide +kernel
theorem dX7_count_49 : decode cX7_count 49 = .ok (.invokevirtual 296, 3) := by decide +kernel
theorem dX7_count_52 : decode cX7_count 52 = .ok (.ireturn, 1) := by decide +kernel
theorem dX7_count_53 : decode cX7_count 53 = .ok (.aload_n 0, 1) := by decide +kernel
theorem dX7_count_54 : decode cX7_count 54 = .ok (.getfield 25, 3) := by decide +kernel
theorem dX7_count_57 : decode cX7_count 57 = .ok (.getfield 141, 3) := by decide +kernel
theorem dX7_count_60 : decode cX7_count 60 = .ok (.ireturn, 1) := by decide +kernel
theorem dX7_count_61 : decode cX7_count 61 = .ok (.aload_n 0, 1) := by decide +kernel
theorem dX7_count_62 : decode cX7_count 62 = .ok (.getfield 25, 3) := by decide +kernel
theorem dX7_count_65 : decode cX7_count 65 = .ok (.getfield 153, 3) := by decide +kernel
theorem dX7_count_68 : decode cX7_count 68 = .ok (.ireturn, 1) := by decide +kernel
theorem dX7_count_69 : decode cX7_count 69 = .ok (.aload_n 0, 1) := by decide +kernel
theorem dX7_count_70 : decode cX7_count 70 = .ok (.getfield 25, 3) := by decide +kernel
theorem dX7_count_73 : decode cX7_count 73 = .ok (.invokevirtual 162, 3) := by decide +kernel
theorem dX7_count_76 : decode cX7_count 76 = .ok (.invokestatic 299, 3) := by decide +kernel
theorem dX7_count_79 : decode cX7_count 79 = .ok (.ireturn, 1) := by decide +kernel
theorem dX7_count_80 : decode cX7_count 80 = .ok (.aload_n 0, 1) := by decide +kernel
theorem dX7_count_81 : decode cX7_count 81 = .ok (.getfield 25, 3) := by decide +kernel
theorem dX7_count_84 : decode cX7_count 84 = .ok (.invokevirtual 196, 3) := by decide +kernel
theorem dX7_count_87 : decode cX7_count 87 = .ok (.ireturn, 1) := by decide +kernel
theorem dX7_count_88 : decode cX7_count 88 = .ok (.aload_n 0, 1) := by decide +kernel
theorem dX7_count_89 : decode cX7_count 89 = .ok (.getfield 25, 3) := by decide +kernel
theorem dX7_count_92 : decode cX7_count 92 = .ok (.getfield 178, 3) := by decide +kernel
theorem dX7_count_95 : decode cX7_count 95 = .ok (.ireturn, 1) := by decide +kernel
theorem dX7_count_96 : decode cX7_count 96 = .ok (.aload_n 0, 1) := by decide +kernel
theorem dX7_count_97 : decode cX7_count 97 = .ok (.getfield 36, 3) := by decide +kernel
theorem dX7_count_100 : decode cX7_count 100 = .ok (.getfield 144, 3) := by decide +kernel
theorem dX7_count_103 : decode cX7_count 103 = .ok (.ireturn, 1) := by decide +kernel
theorem dX7_count_104 : decode cX7_count 104 = .ok (.aload_n 0, 1) := by decide +kernel
theorem dX7_count_105 : decode cX7_count 105 = .ok (.getfield 18, 3) := by decide +kernel
theorem dX7_count_108 : decode cX7_count 108 = .ok (.getfield 111, 3) := by decide +kernel
theorem dX7_count_111 : decode cX7_count 111 = .ok (.ireturn, 1) := by decide +kernel
theorem dX7_count_112 : decode cX7_count 112 = .ok (.ldc 70, 2) := by decide +kernel
theorem dX7_count_114 : decode cX7_count 114 = .ok (.ireturn, 1) := by decide +kernel
theorem dX7_status_0 : decode cX7_status 0 = .ok (.aload_n 0, 1) := by decide +kernel
theorem dX7_status_1 : decode cX7_status 1 = .ok (.getfield 304, 3) := by decide +kernel
theorem dX7_status_4 : decode cX7_status 4 = .ok (.ireturn, 1) := by decide +kernel
theorem dX7_within_0 : decode cX7_within 0 = .ok (.iload_n 0, 1) := by decide +kernel
theorem dX7_within_1 : decode cX7_within 1 = .ok (.iload_n 1, 1) := by decide +kernel
theorem dX7_within_2 : decode cX7_within 2 = .ok (.if_icmp .lt 12, 3) := by decide +kernel
theorem dX7_within_5 : decode cX7_within 5 = .ok (.iload_n 0, 1) := by decide +kernel
theorem dX7_within_6 : decode cX7_within 6 = .ok (.iload_n 2, 1) := by decide +kernel
theorem dX7_within_7 : decode cX7_within 7 = .ok (.if_icmp .gt 7, 3) := by decide +kernel
theorem dX7_within_10 : decode cX7_within 10 = .ok (.iconst 1, 1) := by decide +kernel
theorem dX7_within_11 : decode cX7_within 11 = .ok (.goto 4, 3) := by decide +kernel
theorem dX7_within_14 : decode cX7_within 14 = .ok (.iconst 0, 1) := by decide +kernel
theorem dX7_within_15 : decode cX7_within 15 = .ok (.ireturn, 1) := by decide +kernel
theorem dX7_isRow_0 : decode cX7_isRow 0 = .ok (.iload_n 0, 1) := by decide +kernel
theorem dX7_isRow_1 : decode cX7_isRow 1 = .ok (.iconst 0, 1) := by decide +kernel
theorem dX7_isRow_2 : decode cX7_isRow 2 = .ok (.bipush 7, 2) := by decide +kernel
theorem dX7_isRow_4 : decode cX7_isRow 4 = .ok (.invokestatic 66, 3) := by decide +kernel
theorem dX7_isRow_7 : decode cX7_isRow 7 = .ok (.ireturn, 1) := by decide +kernel
theorem dX7_isHouse_0 : decode cX7_isHouse 0 = .ok (.iload_n 1, 1) := by decide +kernel
theorem dX7_isHouse_1 : decode cX7_isHouse 1 = .ok (.iconst 0, 1) := by decide +kernel
theorem dX7_isHouse_2 : decode cX7_isHouse 2 = .ok (.aload_n 0, 1) := by decide +kernel
theorem dX7_isHouse_3 : decode cX7_isHouse 3 = .ok (.getfield 25, 3) := by decide +kernel
theorem dX7_isHouse_6 : decode cX7_isHouse 6 = .ok (.getfield 141, 3) := by decide +kernel
theorem dX7_isHouse_9 : decode cX7_isHouse 9 = .ok (.iconst 1, 1) := by decide +kernel
theorem dX7_isHouse_10 : decode cX7_isHouse 10 = .ok (.isub, 1) := by decide +kernel
theorem dX7_isHouse_11 : decode cX7_isHouse 11 = .ok (.invokestatic 66, 3) := by decide +kernel
theorem dX7_isHouse_14 : decode cX7_isHouse 14 = .ok (.ireturn, 1) := by decide +kernel
theorem dX7_noStreet_0 : decode cX7_noStreet 0 = .ok (.aload_n 0, 1) := by decide +kernel
theorem dX7_noStreet_1 : decode cX7_noStreet 1 = .ok (.getfield 25, 3) := by decide +kernel
theorem dX7_noStreet_4 : decode cX7_noStreet 4 = .ok (.getfield 141, 3) := by decide +kernel
theorem dX7_noStreet_7 : decode cX7_noStreet 7 = .ok (.ifCond .ne 7, 3) := by decide +kernel
theorem dX7_noStreet_10 : decode cX7_noStreet 10 = .ok (.iconst 1, 1) := by decide +kernel
theorem dX7_noStreet_11 : decode cX7_noStreet 11 = .ok (.goto 4, 3) := by decide +kernel
theorem dX7_noStreet_14 : decode cX7_noStreet 14 = .ok (.iconst 0, 1) := by decide +kernel
theorem dX7_noStreet_15 : decode cX7_noStreet 15 = .ok (.ireturn, 1) := by decide +kernel
theorem dX7_found_0 : decode cX7_found 0 = .ok (.aload_n 0, 1) := by decide +kernel
theorem dX7_found_1 : decode cX7_found 1 = .ok (.iload_n 1, 1) := by decide +kernel
theorem dX7_found_2 : decode cX7_found 2 = .ok (.putfield 304, 3) := by decide +kernel
theorem dX7_found_5 : decode cX7_found 5 = .ok (.ldc_w 307, 3) := by decide +kernel
theorem dX7_found_8 : decode cX7_found 8 = .ok (.iload_n 1, 1) := by decide +kernel
theorem dX7_found_9 : decode cX7_found 9 = .ok (.isub, 1) := by decide +kernel
theorem dX7_found_10 : decode cX7_found 10 = .ok (.ireturn, 1) := by decide +kernel
theorem dX7_fine_0 : decode cX7_fine 0 = .ok (.aload_n 0, 1) := by decide +kernel
theorem dX7_fine_1 : decode cX7_fine 1 = .ok (.iconst 0, 1) := by decide +kernel
theorem dX7_fine_2 : decode cX7_fine 2 = .ok (.putfield 304, 3) := by decide +kernel
theorem dX7_fine_5 : decode cX7_fine 5 = .ok (.iload_n 1, 1) := by decide +kernel
theorem dX7_fine_6 : decode cX7_fine 6 = .ok (.ireturn, 1) := by decide +kernel
theorem dX7_rowsThere_0 : decode cX7_rowsThere 0 = .ok (.iconst 0, 1) := by decide +kernel
theorem dX7_rowsThere_1 : decode cX7_rowsThere 1 = .ok (.istore_n 1, 1) := by decide +kernel
theorem dX7_rowsThere_2 : decode cX7_rowsThere 2 = .ok (.iconst 0, 1) := by decide +kernel
theorem dX7_rowsThere_3 : decode cX7_rowsThere 3 = .ok (.istore_n 2, 1) := by decide +kernel
theorem dX7_rowsThere_4 : decode cX7_rowsThere 4 = .ok (.iload_n 2, 1) := by decide +kernel
theorem dX7_rowsThere_5 : decode cX7_rowsThere 5 = .ok (.bipush 8, 2) := by decide +kernel
theorem dX7_rowsThere_7 : decode cX7_rowsThere 7 = .ok (.if_icmp .ge 29, 3) := by decide +kernel
theorem dX7_rowsThere_10 : decode cX7_rowsThere 10 = .ok (.iload_n 1, 1) := by decide +kernel
theorem dX7_rowsThere_11 : decode cX7_rowsThere 11 = .ok (.aload_n 0, 1) := by decide +kernel
theorem dX7_rowsThere_12 : decode cX7_rowsThere 12 = .ok (.getfield 11, 3) := by decide +kernel
theorem dX7_rowsThere_15 : decode cX7_rowsThere 15 = .ok (.iload_n 2, 1) := by decide +kernel
theorem dX7_rowsThere_16 : decode cX7_rowsThere 16 = .ok (.aaload, 1) := by decide +kernel
theorem dX7_rowsThere_17 : decode cX7_rowsThere 17 = .ok (.getfield 103, 3) := by decide +kernel
theorem dX7_rowsThere_20 : decode cX7_rowsThere 20 = .ok (.ifCond .eq 7, 3) := by decide +kernel
theorem dX7_rowsThere_23 : decode cX7_rowsThere 23 = .ok (.iconst 0, 1) := by decide +kernel
theorem dX7_rowsThere_24 : decode cX7_rowsThere 24 = .ok (.goto 4, 3) := by decide +kernel
theorem dX7_rowsThere_27 : decode cX7_rowsThere 27 = .ok (.iconst 1, 1) := by decide +kernel
theorem dX7_rowsThere_28 : decode cX7_rowsThere 28 = .ok (.iadd, 1) := by decide +kernel
theorem dX7_rowsThere_29 : decode cX7_rowsThere 29 = .ok (.istore_n 1, 1) := by decide +kernel
theorem dX7_rowsThere_30 : decode cX7_rowsThere 30 = .ok (.iinc 2 1, 3) := by decide +kernel
theorem dX7_rowsThere_33 : decode cX7_rowsThere 33 = .ok (.goto (-29), 3) := by decide +kernel
theorem dX7_rowsThere_36 : decode cX7_rowsThere 36 = .ok (.iload_n 1, 1) := by decide +kernel
theorem dX7_rowsThere_37 : decode cX7_rowsThere 37 = .ok (.ireturn, 1) := by decide +kernel
theorem dX7_copyFinding_0 : decode cX7_copyFinding 0 = .ok (.aload_n 0, 1) := by decide +kernel
theorem dX7_copyFinding_1 : decode cX7_copyFinding 1 = .ok (.getfield 103, 3) := by decide +kernel
theorem dX7_copyFinding_4 : decode cX7_copyFinding 4 = .ok (.ifCond .ne 10, 3) := by decide +kernel
theorem dX7_copyFinding_7 : decode cX7_copyFinding 7 = .ok (.aload_n 2, 1) := by decide +kernel
theorem dX7_copyFinding_8 : decode cX7_copyFinding 8 = .ok (.getfield 103, 3) := by decide +kernel
theorem dX7_copyFinding_11 : decode cX7_copyFinding 11 = .ok (.ifCond .eq 5, 3) := by decide +kernel
theorem dX7_copyFinding_14 : decode cX7_copyFinding 14 = .ok (.iconst 1, 1) := by decide +kernel
theorem dX7_copyFinding_15 : decode cX7_copyFinding 15 = .ok (.ireturn, 1) := by decide +kernel
theorem dX7_copyFinding_16 : decode cX7_copyFinding 16 = .ok (.aload_n 0, 1) := by decide +kernel
theorem dX7_copyFinding_17 : decode cX7_copyFinding 17 = .ok (.getfield 308, 3) := by decide +kernel
theorem dX7_copyFinding_20 : decode cX7_copyFinding 20 = .ok (.aload_n 2, 1) := by decide +kernel
theorem dX7_copyFinding_21 : decode cX7_copyFinding 21 = .ok (.getfield 308, 3) := by decide +kernel
theorem dX7_copyFinding_24 : decode cX7_copyFinding 24 = .ok (.if_icmp .eq 5, 3) := by decide +kernel
theorem dX7_copyFinding_27 : decode cX7_copyFinding 27 = .ok (.iconst 5, 1) := by decide +kernel
theorem dX7_copyFinding_28 : decode cX7_copyFinding 28 = .ok (.ireturn, 1) := by decide +kernel
theorem dX7_copyFinding_29 : decode cX7_copyFinding 29 = .ok (.aload_n 0, 1) := by decide +kernel
theorem dX7_copyFinding_30 : decode cX7_copyFinding 30 = .ok (.iload_n 1, 1) := by decide +kernel
theorem dX7_copyFinding_31 : decode cX7_copyFinding 31 = .ok (.iload 4, 2) := by decide +kernel
theorem dX7_copyFinding_33 : decode cX7_copyFinding 33 = .ok (.invokevirtual 82, 3) := by decide +kernel
theorem dX7_copyFinding_36 : decode cX7_copyFinding 36 = .ok (.istore 5, 2) := by decide +kernel
theorem dX7_copyFinding_38 : decode cX7_copyFinding 38 = .ok (.iload 5, 2) := by decide +kernel
theorem dX7_copyFinding_40 : decode cX7_copyFinding 40 = .ok (.ifCond .eq 8, 3) := by decide +kernel
theorem dX7_copyFinding_43 : decode cX7_copyFinding 43 = .ok (.iload 5, 2) := by decide +kernel
theorem dX7_copyFinding_45 : decode cX7_copyFinding 45 = .ok (.goto 10, 3) := by decide +kernel
theorem dX7_copyFinding_48 : decode cX7_copyFinding 48 = .ok (.aload_n 2, 1) := by decide +kernel
theorem dX7_copyFinding_49 : decode cX7_copyFinding 49 = .ok (.iload_n 3, 1) := by decide +kernel
theorem dX7_copyFinding_50 : decode cX7_copyFinding 50 = .ok (.iload 4, 2) := by decide +kernel
theorem dX7_copyFinding_52 : decode cX7_copyFinding 52 = .ok (.invokevirtual 82, 3) := by decide +kernel
theorem dX7_copyFinding_55 : decode cX7_copyFinding 55 = .ok (.ireturn, 1) := by decide +kernel
theorem dX7_isOfKind_0 : decode cX7_isOfKind 0 = .ok (.iload_n 1, 1) := by decide +kernel
theorem dX7_isOfKind_1 : decode cX7_isOfKind 1 = .ok (.tableswitch 74 0 4 #[35, 37, 74, 74, 58], 35) := by decide +kernel
theorem dX7_isOfKind_36 : decode cX7_isOfKind 36 = .ok (.iconst 1, 1) := by decide +kernel
theorem dX7_isOfKind_37 : decode cX7_isOfKind 37 = .ok (.ireturn, 1) := by decide +kernel
theorem dX7_isOfKind_38 : decode cX7_isOfKind 38 = .ok (.iload_n 0, 1) := by decide +kernel
theorem dX7_isOfKind_39 : decode cX7_isOfKind 39 = .ok (.iconst 1, 1) := by decide +kernel
theorem dX7_isOfKind_40 : decode cX7_isOfKind 40 = .ok (.if_icmp .eq 13, 3) := by decide +kernel
theorem dX7_isOfKind_43 : decode cX7_isOfKind 43 = .ok (.iload_n 0, 1) := by decide +kernel
theorem dX7_isOfKind_44 : decode cX7_isOfKind 44 = .ok (.iconst 2, 1) := by decide +kernel
theorem dX7_isOfKind_45 : decode cX7_isOfKind 45 = .ok (.if_icmp .eq 8, 3) := by decide +kernel
theorem dX7_isOfKind_48 : decode cX7_isOfKind 48 = .ok (.iload_n 0, 1) := by decide +kernel
theorem dX7_isOfKind_49 : decode cX7_isOfKind 49 = .ok (.iconst 3, 1) := by decide +kernel
theorem dX7_isOfKind_50 : decode cX7_isOfKind 50 = .ok (.if_icmp .ne 7, 3) := by decide +kernel
theorem dX7_isOfKind_53 : decode cX7_isOfKind 53 = .ok (.iconst 1, 1) := by decide +kernel
theorem dX7_isOfKind_54 : decode cX7_isOfKind 54 = .ok (.goto 4, 3) := by decide +kernel
theorem dX7_isOfKind_57 : decode cX7_isOfKind 57 = .ok (.iconst 0, 1) := by decide +kernel
theorem dX7_isOfKind_58 : decode cX7_isOfKind 58 = .ok (.ireturn, 1) := by decide +kernel
theorem dX7_isOfKind_59 : decode cX7_isOfKind 59 = .ok (.iload_n 0, 1) := by decide +kernel
theorem dX7_isOfKind_60 : decode cX7_isOfKind 60 = .ok (.iconst 4, 1) := by decide +kernel
theorem dX7_isOfKind_61 : decode cX7_isOfKind 61 = .ok (.if_icmp .eq 8, 3) := by decide +kernel
theorem dX7_isOfKind_64 : decode cX7_isOfKind 64 = .ok (.iload_n 0, 1) := by decide +kernel
theorem dX7_isOfKind_65 : decode cX7_isOfKind 65 = .ok (.iconst 5, 1) := by decide +kernel
theorem dX7_isOfKind_66 : decode cX7_isOfKind 66 = .ok (.if_icmp .ne 7, 3) := by decide +kernel
theorem dX7_isOfKind_69 : decode cX7_isOfKind 69 = .ok (.iconst 1, 1) := by decide +kernel
theorem dX7_isOfKind_70 : decode cX7_isOfKind 70 = .ok (.goto 4, 3) := by decide +kernel
theorem dX7_isOfKind_73 : decode cX7_isOfKind 73 = .ok (.iconst 0, 1) := by decide +kernel
theorem dX7_isOfKind_74 : decode cX7_isOfKind 74 = .ok (.ireturn, 1) := by decide +kernel
theorem dX7_isOfKind_75 : decode cX7_isOfKind 75 = .ok (.iload_n 0, 1) := by decide +kernel
theorem dX7_isOfKind_76 : decode cX7_isOfKind 76 = .ok (.iload_n 1, 1) := by decide +kernel
theorem dX7_isOfKind_77 : decode cX7_isOfKind 77 = .ok (.if_icmp .ne 7, 3) := by decide +kernel
theorem dX7_isOfKind_80 : decode cX7_isOfKind 80 = .ok (.iconst 1, 1) := by decide +kernel
theorem dX7_isOfKind_81 : decode cX7_isOfKind 81 = .ok (.goto 4, 3) := by decide +kernel
theorem dX7_isOfKind_84 : decode cX7_isOfKind 84 = .ok (.iconst 0, 1) := by decide +kernel
theorem dX7_isOfKind_85 : decode cX7_isOfKind 85 = .ok (.ireturn, 1) := by decide +kernel
theorem dJ6_bitCount_0f7a4_0 : decode cJ6_bitCount_0f7a4 0 = .ok (.iload_n 0, 1) := by decide +kernel
theorem dJ6_bitCount_0f7a4_1 : decode cJ6_bitCount_0f7a4 1 = .ok (.iload_n 0, 1) := by decide +kernel
theorem dJ6_bitCount_0f7a4_2 : decode cJ6_bitCount_0f7a4 2 = .ok (.iconst 1, 1) := by decide +kernel
theorem dJ6_bitCount_0f7a4_3 : decode cJ6_bitCount_0f7a4 3 = .ok (.iushr, 1) := by decide +kernel
theorem dJ6_bitCount_0f7a4_4 : decode cJ6_bitCount_0f7a4 4 = .ok (.ldc_w 265, 3) := by decide +kernel
theorem dJ6_bitCount_0f7a4_7 : decode cJ6_bitCount_0f7a4 7 = .ok (.iand, 1) := by decide +kernel
theorem dJ6_bitCount_0f7a4_8 : decode cJ6_bitCount_0f7a4 8 = .ok (.isub, 1) := by decide +kernel
theorem dJ6_bitCount_0f7a4_9 : decode cJ6_bitCount_0f7a4 9 = .ok (.istore_n 0, 1) := by decide +kernel
theorem dJ6_bitCount_0f7a4_10 : decode cJ6_bitCount_0f7a4 10 = .ok (.iload_n 0, 1) := by decide +kernel
theorem dJ6_bitCount_0f7a4_11 : decode cJ6_bitCount_0f7a4 11 = .ok (.ldc_w 266, 3) := by decide +kernel
theorem dJ6_bitCount_0f7a4_14 : decode cJ6_bitCount_0f7a4 14 = .ok (.iand, 1) := by decide +kernel
theorem dJ6_bitCount_0f7a4_15 : decode cJ6_bitCount_0f7a4 15 = .ok (.iload_n 0, 1) := by decide +kernel
theorem dJ6_bitCount_0f7a4_16 : decode cJ6_bitCount_0f7a4 16 = .ok (.iconst 2, 1) := by decide +kernel
theorem dJ6_bitCount_0f7a4_17 : decode cJ6_bitCount_0f7a4 17 = .ok (.iushr, 1) := by decide +kernel
theorem dJ6_bitCount_0f7a4_18 : decode cJ6_bitCount_0f7a4 18 = .ok (.ldc_w 266, 3) := by decide +kernel
theorem dJ6_bitCount_0f7a4_21 : decode cJ6_bitCount_0f7a4 21 = .ok (.iand, 1) := by decide +kernel
theorem dJ6_bitCount_0f7a4_22 : decode cJ6_bitCount_0f7a4 22 = .ok (.iadd, 1) := by decide +kernel
theorem dJ6_bitCount_0f7a4_23 : decode cJ6_bitCount_0f7a4 23 = .ok (.istore_n 0, 1) := by decide +kernel
theorem dJ6_bitCount_0f7a4_24 : decode cJ6_bitCount_0f7a4 24 = .ok (.iload_n 0, 1) := by decide +kernel
theorem dJ6_bitCount_0f7a4_25 : decode cJ6_bitCount_0f7a4 25 = .ok (.iload_n 0, 1) := by decide +kernel
theorem dJ6_bitCount_0f7a4_26 : decode cJ6_bitCount_0f7a4 26 = .ok (.iconst 4, 1) := by decide +kernel
theorem dJ6_bitCount_0f7a4_27 : decode cJ6_bitCount_0f7a4 27 = .ok (.iushr, 1) := by decide +kernel
theorem dJ6_bitCount_0f7a4_28 : decode cJ6_bitCount_0f7a4 28 = .ok (.iadd, 1) := by decide +kernel
theorem dJ6_bitCount_0f7a4_29 : decode cJ6_bitCount_0f7a4 29 = .ok (.ldc_w 267, 3) := by decide +kernel
theorem dJ6_bitCount_0f7a4_32 : decode cJ6_bitCount_0f7a4 32 = .ok (.iand, 1) := by decide +kernel
theorem dJ6_bitCount_0f7a4_33 : decode cJ6_bitCount_0f7a4 33 = .ok (.istore_n 0, 1) := by decide +kernel
theorem dJ6_bitCount_0f7a4_34 : decode cJ6_bitCount_0f7a4 34 = .ok (.iload_n 0, 1) := by decide +kernel
theorem dJ6_bitCount_0f7a4_35 : decode cJ6_bitCount_0f7a4 35 = .ok (.iload_n 0, 1) := by decide +kernel
theorem dJ6_bitCount_0f7a4_36 : decode cJ6_bitCount_0f7a4 36 = .ok (.bipush 8, 2) := by decide +kernel
theorem dJ6_bitCount_0f7a4_38 : decode cJ6_bitCount_0f7a4 38 = .ok (.iushr, 1) := by decide +kernel
theorem dJ6_bitCount_0f7a4_39 : decode cJ6_bitCount_0f7a4 39 = .ok (.iadd, 1) := by decide +kernel
theorem dJ6_bitCount_0f7a4_40 : decode cJ6_bitCount_0f7a4 40 = .ok (.istore_n 0, 1) := by decide +kernel
theorem dJ6_bitCount_0f7a4_41 : decode cJ6_bitCount_0f7a4 41 = .ok (.iload_n 0, 1) := by decide +kernel
theorem dJ6_bitCount_0f7a4_42 : decode cJ6_bitCount_0f7a4 42 = .ok (.iload_n 0, 1) := by decide +kernel
theorem dJ6_bitCount_0f7a4_43 : decode cJ6_bitCount_0f7a4 43 = .ok (.bipush 16, 2) := by decide +kernel
theorem dJ6_bitCount_0f7a4_45 : decode cJ6_bitCount_0f7a4 45 = .ok (.iushr, 1) := by decide +kernel
theorem dJ6_bitCount_0f7a4_46 : decode cJ6_bitCount_0f7a4 46 = .ok (.iadd, 1) := by decide +kernel
theorem dJ6_bitCount_0f7a4_47 : decode cJ6_bitCount_0f7a4 47 = .ok (.istore_n 0, 1) := by decide +kernel
theorem dJ6_bitCount_0f7a4_48 : decode cJ6_bitCount_0f7a4 48 = .ok (.iload_n 0, 1) := by decide +kernel
theorem dJ6_bitCount_0f7a4_49 : decode cJ6_bitCount_0f7a4 49 = .ok (.bipush 63, 2) := by decide +kernel
theorem dJ6_bitCount_0f7a4_51 : decode cJ6_bitCount_0f7a4 51 = .ok (.iand, 1) := by decide +kernel
theorem dJ6_bitCount_0f7a4_52 : decode cJ6_bitCount_0f7a4 52 = .ok (.ireturn, 1) := by decide +kernel
theorem dJ0_indexOf_0f7a4_0 : decode cJ0_indexOf_0f7a4 0 = .ok (.aload_n 0, 1) := by decide +kernel
theorem dJ0_indexOf_0f7a4_1 : decode cJ0_indexOf_0f7a4 1 = .ok (.iload_n 1, 1) := by decide +kernel
theorem dJ0_indexOf_0f7a4_2 : decode cJ0_indexOf_0f7a4 2 = .ok (.iconst 0, 1) := by decide +kernel
theorem dJ0_indexOf_0f7a4_3 : decode cJ0_indexOf_0f7a4 3 = .ok (.invokevirtual 633, 3) := by decide +kernel
theorem dJ0_indexOf_0f7a4_6 : decode cJ0_indexOf_0f7a4 6 = .ok (.ireturn, 1) := by decide +kernel
theorem dJ0_indexOf_7cf53_0 : decode cJ0_indexOf_7cf53 0 = .ok (.aload_n 0, 1) := by decide +kernel
theorem dJ0_indexOf_7cf53_1 : decode cJ0_indexOf_7cf53 1 = .ok (.invokevirtual 492, 3) := by decide +kernel
theorem dJ0_indexOf_7cf53_4 : decode cJ0_indexOf_7cf53 4 = .ok (.ifCond .eq 19, 3) := by decide +kernel
theorem dJ0_indexOf_7cf53_7 : decode cJ0_indexOf_7cf53 7 = .ok (.aload_n 0, 1) := by decide +kernel
theorem dJ0_indexOf_7cf53_8 : decode cJ0_indexOf_7cf53 8 = .ok (.getfield 9, 3) := by decide +kernel
theorem dJ0_indexOf_7cf53_11 : decode cJ0_indexOf_7cf53 11 = .ok (.iload_n 1, 1) := by decide +kernel
theorem dJ0_indexOf_7cf53_12 : decode cJ0_indexOf_7cf53 12 = .ok (.iload_n 2, 1) := by decide +kernel
theorem dJ0_indexOf_7cf53_13 : decode cJ0_indexOf_7cf53 13 = .ok (.aload_n 0, 1) := by decide +kernel
theorem dJ0_indexOf_7cf53_14 : decode cJ0_indexOf_7cf53 14 = .ok (.invokevirtual 505, 3) := by decide +kernel
theorem dJ0_indexOf_7cf53_17 : decode cJ0_indexOf_7cf53 17 = .ok (.invokestatic 637, 3) := by decide +kernel
theorem dJ0_indexOf_7cf53_20 : decode cJ0_indexOf_7cf53 20 = .ok (.goto 16, 3) := by decide +kernel
theorem dJ0_indexOf_7cf53_23 : decode cJ0_indexOf_7cf53 23 = .ok (.aload_n 0, 1) := by decide +kernel
theorem dJ0_indexOf_7cf53_24 : decode cJ0_indexOf_7cf53 24 = .ok (.getfield 9, 3) := by decide +kernel
theorem dJ0_indexOf_7cf53_27 : decode cJ0_indexOf_7cf53 27 = .ok (.iload_n 1, 1) := by decide +kernel
theorem dJ0_indexOf_7cf53_28 : decode cJ0_indexOf_7cf53 28 = .ok (.iload_n 2, 1) := by decide +kernel
theorem dJ0_indexOf_7cf53_29 : decode cJ0_indexOf_7cf53 29 = .ok (.aload_n 0, 1) := by decide +kernel
theorem dJ0_indexOf_7cf53_30 : decode cJ0_indexOf_7cf53 30 = .ok (.invokevirtual 505, 3) := by decide +kernel
theorem dJ0_indexOf_7cf53_33 : decode cJ0_indexOf_7cf53 33 = .ok (.invokestatic 640, 3) := by decide +kernel
theorem dJ0_indexOf_7cf53_36 : decode cJ0_indexOf_7cf53 36 = .ok (.ireturn, 1) := by decide +kernel
theorem dJ0_coder_7d493_0 : decode cJ0_coder_7d493 0 = .ok (.getstatic 38, 3) := by decide +kernel
theorem dJ0_coder_7d493_3 : decode cJ0_coder_7d493 3 = .ok (.ifCond .eq 10, 3) := by decide +kernel
theorem dJ0_coder_7d493_6 : decode cJ0_coder_7d493 6 = .ok (.aload_n 0, 1) := by decide +kernel
theorem dJ0_coder_7d493_7 : decode cJ0_coder_7d493 7 = .ok (.getfield 15, 3) := by decide +kernel
theorem dJ0_coder_7d493_10 : decode cJ0_coder_7d493 10 = .ok (.goto 4, 3) := by decide +kernel
theorem dJ0_coder_7d493_13 : decode cJ0_coder_7d493 13 = .ok (.iconst 1, 1) := by decide +kernel
theorem dJ0_coder_7d493_14 : decode cJ0_coder_7d493 14 = .ok (.ireturn, 1) := by decide +kernel
theorem dJ0_isLatin1_aae02_0 : decode cJ0_isLatin1_aae02 0 = .ok (.getstatic 38, 3) := by decide +kernel
theorem dJ0_isLatin1_aae02_3 : decode cJ0_isLatin1_aae02 3 = .ok (.ifCond .eq 14, 3) := by decide +kernel
theorem dJ0_isLatin1_aae02_6 : decode cJ0_isLatin1_aae02 6 = .ok (.aload_n 0, 1) := by decide +kernel
theorem dJ0_isLatin1_aae02_7 : decode cJ0_isLatin1_aae02 7 = .ok (.getfield 15, 3) := by decide +kernel
theorem dJ0_isLatin1_aae02_10 : decode cJ0_isLatin1_aae02 10 = .ok (.ifCond .ne 7, 3) := by decide +kernel
theorem dJ0_isLatin1_aae02_13 : decode cJ0_isLatin1_aae02 13 = .ok (.iconst 1, 1) := by decide +kernel
theorem dJ0_isLatin1_aae02_14 : decode cJ0_isLatin1_aae02 14 = .ok (.goto 4, 3) := by decide +kernel
theorem dJ0_isLatin1_aae02_17 : decode cJ0_isLatin1_aae02 17 = .ok (.iconst 0, 1) := by decide +kernel
theorem dJ0_isLatin1_aae02_18 : decode cJ0_isLatin1_aae02 18 = .ok (.ireturn, 1) := by decide +kernel
theorem dJ1_canEncode_9a6ad_0 : decode cJ1_canEncode_9a6ad 0 = .ok (.iload_n 0, 1) := by decide +kernel
theorem dJ1_canEncode_9a6ad_1 : decode cJ1_canEncode_9a6ad 1 = .ok (.ifCond .lt 14, 3) := by decide +kernel
theorem dJ1_canEncode_9a6ad_4 : decode cJ1_canEncode_9a6ad 4 = .ok (.iload_n 0, 1) := by decide +kernel
theorem dJ1_canEncode_9a6ad_5 : decode cJ1_canEncode_9a6ad 5 = .ok (.sipush 255, 3) := by decide +kernel
theorem dJ1_canEncode_9a6ad_8 : decode cJ1_canEncode_9a6ad 8 = .ok (.if_icmp .gt 7, 3) := by decide +kernel
theorem dJ1_canEncode_9a6ad_11 : decode cJ1_canEncode_9a6ad 11 = .ok (.iconst 1, 1) := by decide +kernel
theorem dJ1_canEncode_9a6ad_12 : decode cJ1_canEncode_9a6ad 12 = .ok (.goto 4, 3) := by decide +kernel
theorem dJ1_canEncode_9a6ad_15 : decode cJ1_canEncode_9a6ad 15 = .ok (.iconst 0, 1) := by decide +kernel
theorem dJ1_canEncode_9a6ad_16 : decode cJ1_canEncode_9a6ad 16 = .ok (.ireturn, 1) := by decide +kernel
theorem dJ1_indexOf_4cfef_0 : decode cJ1_indexOf_4cfef 0 = .ok (.iload_n 1, 1) := by decide +kernel
theorem dJ1_indexOf_4cfef_1 : decode cJ1_indexOf_4cfef 1 = .ok (.invokestatic 88, 3) := by decide +kernel
theorem dJ1_indexOf_4cfef_4 : decode cJ1_indexOf_4cfef 4 = .ok (.ifCond .ne 5, 3) := by decide +kernel
theorem dJ1_indexOf_4cfef_7 : decode cJ1_indexOf_4cfef 7 = .ok (.iconst (-1), 1) := by decide +kernel
theorem dJ1_indexOf_4cfef_8 : decode cJ1_indexOf_4cfef 8 = .ok (.ireturn, 1) := by decide +kernel
theorem dJ1_indexOf_4cfef_9 : decode cJ1_indexOf_4cfef 9 = .ok (.iload_n 2, 1) := by decide +kernel
theorem dJ1_indexOf_4cfef_10 : decode cJ1_indexOf_4cfef 10 = .ok (.iconst 0, 1) := by decide +kernel
theorem dJ1_indexOf_4cfef_11 : decode cJ1_indexOf_4cfef 11 = .ok (.invokestatic 92, 3) := by decide +kernel
theorem dJ1_indexOf_4cfef_14 : decode cJ1_indexOf_4cfef 14 = .ok (.istore_n 2, 1) := by decide +kernel
theorem dJ1_indexOf_4cfef_15 : decode cJ1_indexOf_4cfef 15 = .ok (.iload_n 3, 1) := by decide +kernel
theorem dJ1_indexOf_4cfef_16 : decode cJ1_indexOf_4cfef 16 = .ok (.aload_n 0, 1) := by decide +kernel
theorem dJ1_indexOf_4cfef_17 : decode cJ1_indexOf_4cfef 17 = .ok (.arraylength, 1) := by decide +kernel
theorem dJ1_indexOf_4cfef_18 : decode cJ1_indexOf_4cfef 18 = .ok (.invokestatic 38, 3) := by decide +kernel
theorem dJ1_indexOf_4cfef_21 : decode cJ1_indexOf_4cfef 21 = .ok (.istore_n 3, 1) := by decide +kernel
theorem dJ1_indexOf_4cfef_22 : decode cJ1_indexOf_4cfef 22 = .ok (.iload_n 2, 1) := by decide +kernel
theorem dJ1_indexOf_4cfef_23 : decode cJ1_indexOf_4cfef 23 = .ok (.iload_n 3, 1) := by decide +kernel
theorem dJ1_indexOf_4cfef_24 : decode cJ1_indexOf_4cfef 24 = .ok (.if_icmp .lt 5, 3) := by decide +kernel
theorem dJ1_indexOf_4cfef_27 : decode cJ1_indexOf_4cfef 27 = .ok (.iconst (-1), 1) := by decide +kernel
theorem dJ1_indexOf_4cfef_28 : decode cJ1_indexOf_4cfef 28 = .ok (.ireturn, 1) := by decide +kernel
theorem dJ1_indexOf_4cfef_29 : decode cJ1_indexOf_4cfef 29 = .ok (.aload_n 0, 1) := by decide +kernel
theorem dJ1_indexOf_4cfef_30 : decode cJ1_indexOf_4cfef 30 = .ok (.iload_n 1, 1) := by decide +kernel
theorem dJ1_indexOf_4cfef_31 : decode cJ1_indexOf_4cfef 31 = .ok (.iload_n 2, 1) := by decide +kernel
theorem dJ1_indexOf_4cfef_32 : decode cJ1_indexOf_4cfef 32 = .ok (.iload_n 3, 1) := by decide +kernel
theorem dJ1_indexOf_4cfef_33 : decode cJ1_indexOf_4cfef 33 = .ok (.invokestatic 95, 3) := by decide +kernel
theorem dJ1_indexOf_4cfef_36 : decode cJ1_indexOf_4cfef 36 = .ok (.ireturn, 1) := by decide +kernel
theorem dJ1_indexOfChar_4cfef_0 : decode cJ1_indexOfChar_4cfef 0 = .ok (.iload_n 1, 1) := by decide +kernel
theorem dJ1_indexOfChar_4cfef_1 : decode cJ1_indexOfChar_4cfef 1 = .ok (.i2b, 1) := by decide +kernel
theorem dJ1_indexOfChar_4cfef_2 : decode cJ1_indexOfChar_4cfef 2 = .ok (.istore 4, 2) := by decide +kernel
theorem dJ1_indexOfChar_4cfef_4 : decode cJ1_indexOfChar_4cfef 4 = .ok (.iload_n 2, 1) := by decide +kernel
theorem dJ1_indexOfChar_4cfef_5 : decode cJ1_indexOfChar_4cfef 5 = .ok (.istore 5, 2) := by decide +kernel
theorem dJ1_indexOfChar_4cfef_7 : decode cJ1_indexOfChar_4cfef 7 = .ok (.iload 5, 2) := by decide +kernel
theorem dJ1_indexOfChar_4cfef_9 : decode cJ1_indexOfChar_4cfef 9 = .ok (.iload_n 3, 1) := by decide +kernel
theorem dJ1_indexOfChar_4cfef_10 : decode cJ1_indexOfChar_4cfef 10 = .ok (.if_icmp .ge 21, 3) := by decide +kernel
theorem dJ1_indexOfChar_4cfef_13 : decode cJ1_indexOfChar_4cfef 13 = .ok (.aload_n 0, 1) := by decide +kernel
theorem dJ1_indexOfChar_4cfef_14 : decode cJ1_indexOfChar_4cfef 14 = .ok (.iload 5, 2) := by decide +kernel
theorem dJ1_indexOfChar_4cfef_16 : decode cJ1_indexOfChar_4cfef 16 = .ok (.baload, 1) := by decide +kernel
theorem dJ1_indexOfChar_4cfef_17 : decode cJ1_indexOfChar_4cfef 17 = .ok (.iload 4, 2) := by decide +kernel
theorem dJ1_indexOfChar_4cfef_19 : decode cJ1_indexOfChar_4cfef 19 = .ok (.if_icmp .ne 6, 3) := by decide +kernel
theorem dJ1_indexOfChar_4cfef_22 : decode cJ1_indexOfChar_4cfef 22 = .ok (.iload 5, 2) := by decide +kernel
theorem dJ1_indexOfChar_4cfef_24 : decode cJ1_indexOfChar_4cfef 24 = .ok (.ireturn, 1) := by decide +kernel
theorem dJ1_indexOfChar_4cfef_25 : decode cJ1_indexOfChar_4cfef 25 = .ok (.iinc 5 1, 3) := by decide +kernel
theorem dJ1_indexOfChar_4cfef_28 : decode cJ1_indexOfChar_4cfef 28 = .ok (.goto (-21), 3) := by decide +kernel
theorem dJ1_indexOfChar_4cfef_31 : decode cJ1_indexOfChar_4cfef 31 = .ok (.iconst (-1), 1) := by decide +kernel
theorem dJ1_indexOfChar_4cfef_32 : decode cJ1_indexOfChar_4cfef 32 = .ok (.ireturn, 1) := by decide +kernel
