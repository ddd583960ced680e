theorem dX2_init_0 : decode cX2_init 0 = .ok (.aload_n 0, 1) := by decide +kernel
theorem dX2_init_1 : decode cX2_init 1 = .ok (.invokespecial 3, 3) := by decide +kernel
theorem dX2_init_4 : decode cX2_init 4 = .ok (.aload_n 0, 1) := by decide +kernel
theorem dX2_init_5 : decode cX2_init 5 = .ok (.bipush 8, 2) := by decide +kernel
theorem dX2_init_7 : decode cX2_init 7 = .ok (.anewarray 9, 3) := by decide +kernel
theorem dX2_init_10 : decode cX2_init 10 = .ok (.putfield 11, 3) := by decide +kernel
theorem dX2_init_13 : decode cX2_init 13 = .ok (.iconst 0, 1) := by decide +kernel
theorem dX2_init_14 : decode cX2_init 14 = .ok (.istore_n 1, 1) := by decide +kernel
theorem dX2_init_15 : decode cX2_init 15 = .ok (.iload_n 1, 1) := by decide +kernel
theorem dX2_init_16 : decode cX2_init 16 = .ok (.aload_n 0, 1) := by decide +kernel
theorem dX2_init_17 : decode cX2_init 17 = .ok (.getfield 11, 3) := by decide +kernel
theorem dX2_init_20 : decode cX2_init 20 = .ok (.arraylength, 1) := by decide +kernel
theorem dX2_init_21 : decode cX2_init 21 = .ok (.if_icmp .ge 22, 3) := by decide +kernel
theorem dX2_init_24 : decode cX2_init 24 = .ok (.aload_n 0, 1) := by decide +kernel
theorem dX2_init_25 : decode cX2_init 25 = .ok (.getfield 11, 3) := by decide +kernel
theorem dX2_init_28 : decode cX2_init 28 = .ok (.iload_n 1, 1) := by decide +kernel
theorem dX2_init_29 : decode cX2_init 29 = .ok (.new 9, 3) := by decide +kernel
theorem dX2_init_32 : decode cX2_init 32 = .ok (.dup, 1) := by decide +kernel
theorem dX2_init_33 : decode cX2_init 33 = .ok (.invokespecial 17, 3) := by decide +kernel
theorem dX2_init_36 : decode cX2_init 36 = .ok (.aastore, 1) := by decide +kernel
theorem dX2_init_37 : decode cX2_init 37 = .ok (.iinc 1 1, 3) := by decide +kernel
theorem dX2_init_40 : decode cX2_init 40 = .ok (.goto (-25), 3) := by decide +kernel
theorem dX2_init_43 : decode cX2_init 43 = .ok (.return_, 1) := by decide +kernel
theorem dX2_keep_0 : decode cX2_keep 0 = .ok (.aload_n 0, 1) := by decide +kernel
theorem dX2_keep_1 : decode cX2_keep 1 = .ok (.aload_n 0, 1) := by decide +kernel
theorem dX2_keep_2 : decode cX2_keep 2 = .ok (.getfield 18, 3) := by decide +kernel
theorem dX2_keep_5 : decode cX2_keep 5 = .ok (.invokevirtual 22, 3) := by decide +kernel
theorem dX2_keep_8 : decode cX2_keep 8 = .ok (.astore_n 2, 1) := by decide +kernel
theorem dX2_keep_9 : decode cX2_keep 9 = .ok (.aload_n 2, 1) := by decide +kernel
theorem dX2_keep_10 : decode cX2_keep 10 = .ok (.ifnull 8, 3) := by decide +kernel
theorem dX2_keep_13 : decode cX2_keep 13 = .ok (.aload_n 2, 1) := by decide +kernel
theorem dX2_keep_14 : decode cX2_keep 14 = .ok (.aload_n 1, 1) := by decide +kernel
theorem dX2_keep_15 : decode cX2_keep 15 = .ok (.invokevirtual 26, 3) := by decide +kernel
theorem dX2_keep_18 : decode cX2_keep 18 = .ok (.aload_n 0, 1) := by decide +kernel
theorem dX2_keep_19 : decode cX2_keep 19 = .ok (.aload_n 0, 1) := by decide +kernel
theorem dX2_keep_20 : decode cX2_keep 20 = .ok (.getfield 18, 3) := by decide +kernel
theorem dX2_keep_23 : decode cX2_keep 23 = .ok (.iconst 1, 1) := by decide +kernel
theorem dX2_keep_24 : decode cX2_keep 24 = .ok (.iadd, 1) := by decide +kernel
theorem dX2_keep_25 : decode cX2_keep 25 = .ok (.bipush 8, 2) := by decide +kernel
theorem dX2_keep_27 : decode cX2_keep 27 = .ok (.if_icmp .ge 12, 3) := by decide +kernel
theorem dX2_keep_30 : decode cX2_keep 30 = .ok (.aload_n 0, 1) := by decide +kernel
theorem dX2_keep_31 : decode cX2_keep 31 = .ok (.getfield 18, 3) := by decide +kernel
theorem dX2_keep_34 : decode cX2_keep 34 = .ok (.iconst 1, 1) := by decide +kernel
theorem dX2_keep_35 : decode cX2_keep 35 = .ok (.iadd, 1) := by decide +kernel
theorem dX2_keep_36 : decode cX2_keep 36 = .ok (.goto 4, 3) := by decide +kernel
theorem dX2_keep_39 : decode cX2_keep 39 = .ok (.iconst 0, 1) := by decide +kernel
theorem dX2_keep_40 : decode cX2_keep 40 = .ok (.putfield 18, 3) := by decide +kernel
theorem dX2_keep_43 : decode cX2_keep 43 = .ok (.aload_n 0, 1) := by decide +kernel
theorem dX2_keep_44 : decode cX2_keep 44 = .ok (.aload_n 0, 1) := by decide +kernel
theorem dX2_keep_45 : decode cX2_keep 45 = .ok (.getfield 30, 3) := by decide +kernel
theorem dX2_keep_48 : decode cX2_keep 48 = .ok (.iconst 1, 1) := by decide +kernel
theorem dX2_keep_49 : decode cX2_keep 49 = .ok (.iadd, 1) := by decide +kernel
theorem dX2_keep_50 : decode cX2_keep 50 = .ok (.bipush 8, 2) := by decide +kernel
theorem dX2_keep_52 : decode cX2_keep 52 = .ok (.invokestatic 33, 3) := by decide +kernel
theorem dX2_keep_55 : decode cX2_keep 55 = .ok (.putfield 30, 3) := by decide +kernel
theorem dX2_keep_58 : decode cX2_keep 58 = .ok (.return_, 1) := by decide +kernel
theorem dX2_stateAt_0 : decode cX2_stateAt 0 = .ok (.iload_n 1, 1) := by decide +kernel
theorem dX2_stateAt_1 : decode cX2_stateAt 1 = .ok (.ifCond .lt 21, 3) := by decide +kernel
theorem dX2_stateAt_4 : decode cX2_stateAt 4 = .ok (.iload_n 1, 1) := by decide +kernel
theorem dX2_stateAt_5 : decode cX2_stateAt 5 = .ok (.aload_n 0, 1) := by decide +kernel
theorem dX2_stateAt_6 : decode cX2_stateAt 6 = .ok (.getfield 11, 3) := by decide +kernel
theorem dX2_stateAt_9 : decode cX2_stateAt 9 = .ok (.arraylength, 1) := by decide +kernel
theorem dX2_stateAt_10 : decode cX2_stateAt 10 = .ok (.if_icmp .ge 12, 3) := by decide +kernel
theorem dX2_stateAt_13 : decode cX2_stateAt 13 = .ok (.aload_n 0, 1) := by decide +kernel
theorem dX2_stateAt_14 : decode cX2_stateAt 14 = .ok (.getfield 11, 3) := by decide +kernel
theorem dX2_stateAt_17 : decode cX2_stateAt 17 = .ok (.iload_n 1, 1) := by decide +kernel
theorem dX2_stateAt_18 : decode cX2_stateAt 18 = .ok (.aaload, 1) := by decide +kernel
theorem dX2_stateAt_19 : decode cX2_stateAt 19 = .ok (.goto 4, 3) := by decide +kernel
theorem dX2_stateAt_22 : decode cX2_stateAt 22 = .ok (.aconst_null, 1) := by decide +kernel
theorem dX2_stateAt_23 : decode cX2_stateAt 23 = .ok (.areturn, 1) := by decide +kernel
theorem dX3_init_0 : decode cX3_init 0 = .ok (.aload_n 0, 1) := by decide +kernel
theorem dX3_init_1 : decode cX3_init 1 = .ok (.invokespecial 3, 3) := by decide +kernel
theorem dX3_init_4 : decode cX3_init 4 = .ok (.aload_n 0, 1) := by decide +kernel
theorem dX3_init_5 : decode cX3_init 5 = .ok (.sipush 414, 3) := by decide +kernel
theorem dX3_init_8 : decode cX3_init 8 = .ok (.newarray .char, 2) := by decide +kernel
theorem dX3_init_10 : decode cX3_init 10 = .ok (.putfield 9, 3) := by decide +kernel
theorem dX3_init_13 : decode cX3_init 13 = .ok (.return_, 1) := by decide +kernel
theorem dX3_clear_0 : decode cX3_clear 0 = .ok (.aload_n 0, 1) := by decide +kernel
theorem dX3_clear_1 : decode cX3_clear 1 = .ok (.iconst 0, 1) := by decide +kernel
theorem dX3_clear_2 : decode cX3_clear 2 = .ok (.putfield 15, 3) := by decide +kernel
theorem dX3_clear_5 : decode cX3_clear 5 = .ok (.return_, 1) := by decide +kernel
theorem dX3_write_0 : decode cX3_write 0 = .ok (.aload_n 0, 1) := by decide +kernel
theorem dX3_write_1 : decode cX3_write 1 = .ok (.getfield 15, 3) := by decide +kernel
theorem dX3_write_4 : decode cX3_write 4 = .ok (.ifCond .lt 35, 3) := by decide +kernel
theorem dX3_write_7 : decode cX3_write 7 = .ok (.aload_n 0, 1) := by decide +kernel
theorem dX3_write_8 : decode cX3_write 8 = .ok (.getfield 15, 3) := by decide +kernel
theorem dX3_write_11 : decode cX3_write 11 = .ok (.aload_n 0, 1) := by decide +kernel
theorem dX3_write_12 : decode cX3_write 12 = .ok (.getfield 9, 3) := by decide +kernel
theorem dX3_write_15 : decode cX3_write 15 = .ok (.arraylength, 1) := by decide +kernel
theorem dX3_write_16 : decode cX3_write 16 = .ok (.if_icmp .ge 23, 3) := by decide +kernel
theorem dX3_write_19 : decode cX3_write 19 = .ok (.aload_n 0, 1) := by decide +kernel
theorem dX3_write_20 : decode cX3_write 20 = .ok (.getfield 9, 3) := by decide +kernel
theorem dX3_write_23 : decode cX3_write 23 = .ok (.aload_n 0, 1) := by decide +kernel
theorem dX3_write_24 : decode cX3_write 24 = .ok (.getfield 15, 3) := by decide +kernel
theorem dX3_write_27 : decode cX3_write 27 = .ok (.iload_n 1, 1) := by decide +kernel
theorem dX3_write_28 : decode cX3_write 28 = .ok (.castore, 1) := by decide +kernel
theorem dX3_write_29 : decode cX3_write 29 = .ok (.aload_n 0, 1) := by decide +kernel
theorem dX3_write_30 : decode cX3_write 30 = .ok (.dup, 1) := by decide +kernel
theorem dX3_write_31 : decode cX3_write 31 = .ok (.getfield 15, 3) := by decide +kernel
theorem dX3_write_34 : decode cX3_write 34 = .ok (.iconst 1, 1) := by decide +kernel
theorem dX3_write_35 : decode cX3_write 35 = .ok (.iadd, 1) := by decide +kernel
theorem dX3_write_36 : decode cX3_write 36 = .ok (.putfield 15, 3) := by decide +kernel
theorem dX3_write_39 : decode cX3_write 39 = .ok (.return_, 1) := by decide +kernel
theorem dX3_writeNumber_0 : decode cX3_writeNumber 0 = .ok (.iload_n 1, 1) := by decide +kernel
theorem dX3_writeNumber_1 : decode cX3_writeNumber 1 = .ok (.bipush 100, 2) := by decide +kernel
theorem dX3_writeNumber_3 : decode cX3_writeNumber 3 = .ok (.if_icmp .lt 18, 3) := by decide +kernel
theorem dX3_writeNumber_6 : decode cX3_writeNumber 6 = .ok (.aload_n 0, 1) := by decide +kernel
theorem dX3_writeNumber_7 : decode cX3_writeNumber 7 = .ok (.bipush 48, 2) := by decide +kernel
theorem dX3_writeNumber_9 : decode cX3_writeNumber 9 = .ok (.iload_n 1, 1) := by decide +kernel
theorem dX3_writeNumber_10 : decode cX3_writeNumber 10 = .ok (.bipush 100, 2) := by decide +kernel
theorem dX3_writeNumber_12 : decode cX3_writeNumber 12 = .ok (.idiv, 1) := by decide +kernel
theorem dX3_writeNumber_13 : decode cX3_writeNumber 13 = .ok (.bipush 10, 2) := by decide +kernel
theorem dX3_writeNumber_15 : decode cX3_writeNumber 15 = .ok (.irem, 1) := by decide +kernel
theorem dX3_writeNumber_16 : decode cX3_writeNumber 16 = .ok (.iadd, 1) := by decide +kernel
theorem dX3_writeNumber_17 : decode cX3_writeNumber 17 = .ok (.i2c, 1) := by decide +kernel
theorem dX3_writeNumber_18 : decode cX3_writeNumber 18 = .ok (.invokevirtual 19, 3) := by decide +kernel
theorem dX3_writeNumber_21 : decode cX3_writeNumber 21 = .ok (.iload_n 1, 1) := by decide +kernel
theorem dX3_writeNumber_22 : decode cX3_writeNumber 22 = .ok (.bipush 10, 2) := by decide +kernel
theorem dX3_writeNumber_24 : decode cX3_writeNumber 24 = .ok (.if_icmp .lt 18, 3) := by decide +kernel
theorem dX3_writeNumber_27 : decode cX3_writeNumber 27 = .ok (.aload_n 0, 1) := by decide +kernel
theorem dX3_writeNumber_28 : decode cX3_writeNumber 28 = .ok (.bipush 48, 2) := by decide +kernel
theorem dX3_writeNumber_30 : decode cX3_writeNumber 30 = .ok (.iload_n 1, 1) := by decide +kernel
theorem dX3_writeNumber_31 : decode cX3_writeNumber 31 = .ok (.bipush 10, 2) := by decide +kernel
theorem dX3_writeNumber_33 : decode cX3_writeNumber 33 = .ok (.idiv, 1) := by decide +kernel
theorem dX3_writeNumber_34 : decode cX3_writeNumber 34 = .ok (.bipush 10, 2) := by decide +kernel
theorem dX3_writeNumber_36 : decode cX3_writeNumber 36 = .ok (.irem, 1) := by decide +kernel
theorem dX3_writeNumber_37 : decode cX3_writeNumber 37 = .ok (.iadd, 1) := by decide +kernel
theorem dX3_writeNumber_38 : decode cX3_writeNumber 38 = .ok (.i2c, 1) := by decide +kernel
theorem dX3_writeNumber_39 : decode cX3_writeNumber 39 = .ok (.invokevirtual 19, 3) := by decide +kernel
theorem dX3_writeNumber_42 : decode cX3_writeNumber 42 = .ok (.aload_n 0, 1) := by decide +kernel
theorem dX3_writeNumber_43 : decode cX3_writeNumber 43 = .ok (.bipush 48, 2) := by decide +kernel
theorem dX3_writeNumber_45 : decode cX3_writeNumber 45 = .ok (.iload_n 1, 1) := by decide +kernel
theorem dX3_writeNumber_46 : decode cX3_writeNumber 46 = .ok (.bipush 10, 2) := by decide +kernel
theorem dX3_writeNumber_48 : decode cX3_writeNumber 48 = .ok (.irem, 1) := by decide +kernel
theorem dX3_writeNumber_49 : decode cX3_writeNumber 49 = .ok (.iadd, 1) := by decide +kernel
theorem dX3_writeNumber_50 : decode cX3_writeNumber 50 = .ok (.i2c, 1) := by decide +kernel
theorem dX3_writeNumber_51 : decode cX3_writeNumber 51 = .ok (.invokevirtual 19, 3) := by decide +kernel
theorem dX3_writeNumber_54 : decode cX3_writeNumber 54 = .ok (.return_, 1) := by decide +kernel
theorem dX4_init_0 : decode cX4_init 0 = .ok (.aload_n 0, 1) := by decide +kernel
theorem dX4_init_1 : decode cX4_init 1 = .ok (.invokespecial 3, 3) := by decide +kernel
theorem dX4_init_4 : decode cX4_init 4 = .ok (.aload_n 0, 1) := by decide +kernel
theorem dX4_init_5 : decode cX4_init 5 = .ok (.bipush 12, 2) := by decide +kernel
theorem dX4_init_7 : decode cX4_init 7 = .ok (.newarray .int, 2) := by decide +kernel
theorem dX4_init_9 : decode cX4_init 9 = .ok (.putfield 9, 3) := by decide +kernel
theorem dX4_init_12 : decode cX4_init 12 = .ok (.aload_n 0, 1) := by decide +kernel
theorem dX4_init_13 : decode cX4_init 13 = .ok (.bipush 12, 2) := by decide +kernel
theorem dX4_init_15 : decode cX4_init 15 = .ok (.newarray .int, 2) := by decide +kernel
theorem dX4_init_17 : decode cX4_init 17 = .ok (.putfield 15, 3) := by decide +kernel
theorem dX4_init_20 : decode cX4_init 20 = .ok (.aload_n 0, 1) := by decide +kernel
theorem dX4_init_21 : decode cX4_init 21 = .ok (.bipush 12, 2) := by decide +kernel
theorem dX4_init_23 : decode cX4_init 23 = .ok (.newarray .int, 2) := by decide +kernel
theorem dX4_init_25 : decode cX4_init 25 = .ok (.putfield 18, 3) := by decide +kernel
theorem dX4_init_28 : decode cX4_init 28 = .ok (.aload_n 0, 1) := by decide +kernel
theorem dX4_init_29 : decode cX4_init 29 = .ok (.bipush 12, 2) := by decide +kernel
theorem dX4_init_31 : decode cX4_init 31 = .ok (.newarray .int, 2) := by decide +kernel
theorem dX4_init_33 : decode cX4_init 33 = .ok (.putfield 21, 3) := by decide +kernel
theorem dX4_init_36 : decode cX4_init 36 = .ok (.aload_n 0, 1) := by decide +kernel
theorem dX4_init_37 : decode cX4_init 37 = .ok (.bipush 12, 2) := by decide +kernel
theorem dX4_init_39 : decode cX4_init 39 = .ok (.newarray .int, 2) := by decide +kernel
theorem dX4_init_41 : decode cX4_init 41 = .ok (.putfield 24, 3) := by decide +kernel
theorem dX4_init_44 : decode cX4_init 44 = .ok (.aload_n 0, 1) := by decide +kernel
theorem dX4_init_45 : decode cX4_init 45 = .ok (.bipush 12, 2) := by decide +kernel
theorem dX4_init_47 : decode cX4_init 47 = .ok (.newarray .int, 2) := by decide +kernel
theorem dX4_init_49 : decode cX4_init 49 = .ok (.putfield 27, 3) := by decide +kernel
theorem dX4_init_52 : decode cX4_init 52 = .ok (.aload_n 0, 1) := by decide +kernel
theorem dX4_init_53 : decode cX4_init 53 = .ok (.sipush 414, 3) := by decide +kernel
theorem dX4_init_56 : decode cX4_init 56 = .ok (.newarray .int, 2) := by decide +kernel
theorem dX4_init_58 : decode cX4_init 58 = .ok (.putfield 30, 3) := by decide +kernel
theorem dX4_init_61 : decode cX4_init 61 = .ok (.return_, 1) := by decide +kernel
theorem dX4_make_0 : decode cX4_make 0 = .ok (.aload_n 0, 1) := by decide +kernel
theorem dX4_make_1 : decode cX4_make 1 = .ok (.aload_n 1, 1) := by decide +kernel
theorem dX4_make_2 : decode cX4_make 2 = .ok (.invokevirtual 33, 3) := by decide +kernel
theorem dX4_make_5 : decode cX4_make 5 = .ok (.aload_n 0, 1) := by decide +kernel
theorem dX4_make_6 : decode cX4_make 6 = .ok (.aload_n 1, 1) := by decide +kernel
theorem dX4_make_7 : decode cX4_make 7 = .ok (.invokevirtual 37, 3) := by decide +kernel
theorem dX4_make_10 : decode cX4_make 10 = .ok (.aload_n 0, 1) := by decide +kernel
theorem dX4_make_11 : decode cX4_make 11 = .ok (.aload_n 1, 1) := by decide +kernel
theorem dX4_make_12 : decode cX4_make 12 = .ok (.invokevirtual 40, 3) := by decide +kernel
theorem dX4_make_15 : decode cX4_make 15 = .ok (.aload_n 0, 1) := by decide +kernel
theorem dX4_make_16 : decode cX4_make 16 = .ok (.aload_n 1, 1) := by decide +kernel
theorem dX4_make_17 : decode cX4_make 17 = .ok (.invokevirtual 43, 3) := by decide +kernel
theorem dX4_make_20 : decode cX4_make 20 = .ok (.aload_n 0, 1) := by decide +kernel
theorem dX4_make_21 : decode cX4_make 21 = .ok (.aload_n 1, 1) := by decide +kernel
theorem dX4_make_22 : decode cX4_make 22 = .ok (.invokevirtual 46, 3) := by decide +kernel
theorem dX4_make_25 : decode cX4_make 25 = .ok (.aload_n 0, 1) := by decide +kernel
theorem dX4_make_26 : decode cX4_make 26 = .ok (.aload_n 1, 1) := by decide +kernel
theorem dX4_make_27 : decode cX4_make 27 = .ok (.invokevirtual 49, 3) := by decide +kernel
theorem dX4_make_30 : decode cX4_make 30 = .ok (.return_, 1) := by decide +kernel
theorem dX4_slackOf_0 : decode cX4_slackOf 0 = .ok (.aload_n 0, 1) := by decide +kernel
theorem dX4_slackOf_1 : decode cX4_slackOf 1 = .ok (.getfield 24, 3) := by decide +kernel
theorem dX4_slackOf_4 : decode cX4_slackOf 4 = .ok (.iload_n 1, 1) := by decide +kernel
theorem dX4_slackOf_5 : decode cX4_slackOf 5 = .ok (.invokestatic 52, 3) := by decide +kernel
theorem dX4_slackOf_8 : decode cX4_slackOf 8 = .ok (.aload_n 0, 1) := by decide +kernel
theorem dX4_slackOf_9 : decode cX4_slackOf 9 = .ok (.getfield 18, 3) := by decide +kernel
theorem dX4_slackOf_12 : decode cX4_slackOf 12 = .ok (.iload_n 1, 1) := by decide +kernel
theorem dX4_slackOf_13 : decode cX4_slackOf 13 = .ok (.invokestatic 52, 3) := by decide +kernel
theorem dX4_slackOf_16 : decode cX4_slackOf 16 = .ok (.isub, 1) := by decide +kernel
theorem dX4_slackOf_17 : decode cX4_slackOf 17 = .ok (.ireturn, 1) := by decide +kernel
theorem dX4_usedOn_0 : decode cX4_usedOn 0 = .ok (.iload_n 2, 1) := by decide +kernel
theorem dX4_usedOn_1 : decode cX4_usedOn 1 = .ok (.sipush 138, 3) := by decide +kernel
theorem dX4_usedOn_4 : decode cX4_usedOn 4 = .ok (.if_icmp .ge 20, 3) := by decide +kernel
theorem dX4_usedOn_7 : decode cX4_usedOn 7 = .ok (.aload_n 0, 1) := by decide +kernel
theorem dX4_usedOn_8 : decode cX4_usedOn 8 = .ok (.getfield 30, 3) := by decide +kernel
theorem dX4_usedOn_11 : decode cX4_usedOn 11 = .ok (.iload_n 1, 1) := by decide +kernel
theorem dX4_usedOn_12 : decode cX4_usedOn 12 = .ok (.sipush 138, 3) := by decide +kernel
theorem dX4_usedOn_15 : decode cX4_usedOn 15 = .ok (.imul, 1) := by decide +kernel
theorem dX4_usedOn_16 : decode cX4_usedOn 16 = .ok (.iload_n 2, 1) := by decide +kernel
theorem dX4_usedOn_17 : decode cX4_usedOn 17 = .ok (.iadd, 1) := by decide +kernel
theorem dX4_usedOn_18 : decode cX4_usedOn 18 = .ok (.invokestatic 52, 3) := by decide +kernel
theorem dX4_usedOn_21 : decode cX4_usedOn 21 = .ok (.goto 4, 3) := by decide +kernel
theorem dX4_usedOn_24 : decode cX4_usedOn 24 = .ok (.iconst 0, 1) := by decide +kernel
theorem dX4_usedOn_25 : decode cX4_usedOn 25 = .ok (.ireturn, 1) := by decide +kernel
theorem dX4_workOnAllDays_0 : decode cX4_workOnAllDays 0 = .ok (.iconst 0, 1) := by decide +kernel
theorem dX4_workOnAllDays_1 : decode cX4_workOnAllDays 1 = .ok (.istore_n 2, 1) := by decide +kernel
theorem dX4_workOnAllDays_2 : decode cX4_workOnAllDays 2 = .ok (.iconst 0, 1) := by decide +kernel
theorem dX4_workOnAllDays_3 : decode cX4_workOnAllDays 3 = .ok (.istore_n 3, 1) := by decide +kernel
theorem dX4_workOnAllDays_4 : decode cX4_workOnAllDays 4 = .ok (.iload_n 3, 1) := by decide +kernel
theorem dX4_workOnAllDays_5 : decode cX4_workOnAllDays 5 = .ok (.sipush 138, 3) := by decide +kernel
theorem dX4_workOnAllDays_8 : decode cX4_workOnAllDays 8 = .ok (.if_icmp .ge 18, 3) := by decide +kernel
theorem dX4_workOnAllDays_11 : decode cX4_workOnAllDays 11 = .ok (.iload_n 2, 1) := by decide +kernel
theorem dX4_workOnAllDays_12 : decode cX4_workOnAllDays 12 = .ok (.aload_n 0, 1) := by decide +kernel
theorem dX4_workOnAllDays_13 : decode cX4_workOnAllDays 13 = .ok (.iload_n 1, 1) := by decide +kernel
theorem dX4_workOnAllDays_14 : decode cX4_workOnAllDays 14 = .ok (.iload_n 3, 1) := by decide +kernel
theorem dX4_workOnAllDays_15 : decode cX4_workOnAllDays 15 = .ok (.invokevirtual 56, 3) := by decide +kernel
theorem dX4_workOnAllDays_18 : decode cX4_workOnAllDays 18 = .ok (.iadd, 1) := by decide +kernel
theorem dX4_workOnAllDays_19 : decode cX4_workOnAllDays 19 = .ok (.istore_n 2, 1) := by decide +kernel
theorem dX4_workOnAllDays_20 : decode cX4_workOnAllDays 20 = .ok (.iinc 3 1, 3) := by decide +kernel
theorem dX4_workOnAllDays_23 : decode cX4_workOnAllDays 23 = .ok (.goto (-19), 3) := by decide +kernel
theorem dX4_workOnAllDays_26 : decode cX4_workOnAllDays 26 = .ok (.iload_n 2, 1) := by decide +kernel
theorem dX4_workOnAllDays_27 : decode cX4_workOnAllDays 27 = .ok (.ireturn, 1) := by decide +kernel
theorem dX4_findOrder_0 : decode cX4_findOrder 0 = .ok (.iconst 0, 1) := by decide +kernel
theorem dX4_findOrder_1 : decode cX4_findOrder 1 = .ok (.istore_n 2, 1) := by decide +kernel
theorem dX4_findOrder_2 : decode cX4_findOrder 2 = .ok (.iconst 0, 1) := by decide +kernel
theorem dX4_findOrder_3 : decode cX4_findOrder 3 = .ok (.istore_n 3, 1) := by decide +kernel
theorem dX4_findOrder_4 : decode cX4_findOrder 4 = .ok (.iload_n 3, 1) := by decide +kernel
theorem dX4_findOrder_5 : decode cX4_findOrder 5 = .ok (.aload_n 1, 1) := by decide +kernel
theorem dX4_findOrder_6 : decode cX4_findOrder 6 = .ok (.getfield 60, 3) := by decide +kernel
theorem dX4_findOrder_9 : decode cX4_findOrder 9 = .ok (.if_icmp .ge 54, 3) := by decide +kernel
theorem dX4_findOrder_12 : decode cX4_findOrder 12 = .ok (.iconst 0, 1) := by decide +kernel
theorem dX4_findOrder_13 : decode cX4_findOrder 13 = .ok (.istore 4, 2) := by decide +kernel
theorem dX4_findOrder_15 : decode cX4_findOrder 15 = .ok (.iload 4, 2) := by decide +kernel
theorem dX4_findOrder_17 : decode cX4_findOrder 17 = .ok (.aload_n 1, 1) := by decide +kernel
theorem dX4_findOrder_18 : decode cX4_findOrder 18 = .ok (.getfield 60, 3) := by decide +kernel
theorem dX4_findOrder_21 : decode cX4_findOrder 21 = .ok (.if_icmp .ge 19, 3) := by decide +kernel
theorem dX4_findOrder_24 : decode cX4_findOrder 24 = .ok (.aload_n 1, 1) := by decide +kernel
theorem dX4_findOrder_25 : decode cX4_findOrder 25 = .ok (.iload 4, 2) := by decide +kernel
theorem dX4_findOrder_27 : decode cX4_findOrder 27 = .ok (.iload_n 2, 1) := by decide +kernel
theorem dX4_findOrder_28 : decode cX4_findOrder 28 = .ok (.invokevirtual 66, 3) := by decide +kernel
theorem dX4_findOrder_31 : decode cX4_findOrder 31 = .ok (.ifCond .ne 9, 3) := by decide +kernel
theorem dX4_findOrder_34 : decode cX4_findOrder 34 = .ok (.iinc 4 1, 3) := by decide +kernel
theorem dX4_findOrder_37 : decode cX4_findOrder 37 = .ok (.goto (-22), 3) := by decide +kernel
theorem dX4_findOrder_40 : decode cX4_findOrder 40 = .ok (.aload_n 0, 1) := by decide +kernel
theorem dX4_findOrder_41 : decode cX4_findOrder 41 = .ok (.getfield 9, 3) := by decide +kernel
theorem dX4_findOrder_44 : decode cX4_findOrder 44 = .ok (.iload_n 3, 1) := by decide +kernel
theorem dX4_findOrder_45 : decode cX4_findOrder 45 = .ok (.iload 4, 2) := by decide +kernel
theorem dX4_findOrder_47 : decode cX4_findOrder 47 = .ok (.invokestatic 70, 3) := by decide +kernel
theorem dX4_findOrder_50 : decode cX4_findOrder 50 = .ok (.iload_n 2, 1) := by decide +kernel
theorem dX4_findOrder_51 : decode cX4_findOrder 51 = .ok (.iconst 1, 1) := by decide +kernel
theorem dX4_findOrder_52 : decode cX4_findOrder 52 = .ok (.iload 4, 2) := by decide +kernel
theorem dX4_findOrder_54 : decode cX4_findOrder 54 = .ok (.ishl, 1) := by decide +kernel
theorem dX4_findOrder_55 : decode cX4_findOrder 55 = .ok (.ior, 1) := by decide +kernel
theorem dX4_findOrder_56 : decode cX4_findOrder 56 = .ok (.istore_n 2, 1) := by decide +kernel
theorem dX4_findOrder_57 : decode cX4_findOrder 57 = .ok (.iinc 3 1, 3) := by decide +kernel
theorem dX4_findOrder_60 : decode cX4_findOrder 60 = .ok (.goto (-56), 3) := by decide +kernel
theorem dX4_findOrder_63 : decode cX4_findOrder 63 = .ok (.return_, 1) := by decide +kernel
theorem dX4_findClosure_0 : decode cX4_findClosure 0 = .ok (.aload_n 1, 1) := by decide +kernel
theorem dX4_findClosure_1 : decode cX4_findClosure 1 = .ok (.getfield 74, 3) := by decide +kernel
theorem dX4_findClosure_4 : decode cX4_findClosure 4 = .ok (.aload_n 0, 1) := by decide +kernel
theorem dX4_findClosure_5 : decode cX4_findClosure 5 = .ok (.getfield 15, 3) := by decide +kernel
theorem dX4_findClosure_8 : decode cX4_findClosure 8 = .ok (.invokestatic 77, 3) := by decide +kernel
theorem dX4_findClosure_11 : decode cX4_findClosure 11 = .ok (.iconst 0, 1) := by decide +kernel
theorem dX4_findClosure_12 : decode cX4_findClosure 12 = .ok (.istore_n 2, 1) := by decide +kernel
theorem dX4_findClosure_13 : decode cX4_findClosure 13 = .ok (.iload_n 2, 1) := by decide +kernel
theorem dX4_findClosure_14 : decode cX4_findClosure 14 = .ok (.aload_n 1, 1) := by decide +kernel
theorem dX4_findClosure_15 : decode cX4_findClosure 15 = .ok (.getfield 60, 3) := by decide +kernel
theorem dX4_findClosure_18 : decode cX4_findClosure 18 = .ok (.if_icmp .ge 65, 3) := by decide +kernel
theorem dX4_findClosure_21 : decode cX4_findClosure 21 = .ok (.iconst 0, 1) := by decide +kernel
theorem dX4_findClosure_22 : decode cX4_findClosure 22 = .ok (.istore_n 3, 1) := by decide +kernel
theorem dX4_findClosure_23 : decode cX4_findClosure 23 = .ok (.iload_n 3, 1) := by decide +kernel
theorem dX4_findClosure_24 : decode cX4_findClosure 24 = .ok (.aload_n 1, 1) := by decide +kernel
theorem dX4_findClosure_25 : decode cX4_findClosure 25 = .ok (.getfield 60, 3) := by decide +kernel
theorem dX4_findClosure_28 : decode cX4_findClosure 28 = .ok (.if_icmp .ge 49, 3) := by decide +kernel
theorem dX4_findClosure_31 : decode cX4_findClosure 31 = .ok (.aload_n 0, 1) := by decide +kernel
theorem dX4_findClosure_32 : decode cX4_findClosure 32 = .ok (.getfield 15, 3) := by decide +kernel
theorem dX4_findClosure_35 : decode cX4_findClosure 35 = .ok (.iload_n 3, 1) := by decide +kernel
theorem dX4_findClosure_36 : decode cX4_findClosure 36 = .ok (.invokestatic 52, 3) := by decide +kernel
theorem dX4_findClosure_39 : decode cX4_findClosure 39 = .ok (.iload_n 2, 1) := by decide +kernel
theorem dX4_findClosure_40 : decode cX4_findClosure 40 = .ok (.invokestatic 81, 3) := by decide +kernel
theorem dX4_findClosure_43 : decode cX4_findClosure 43 = .ok (.ifCond .eq 28, 3) := by decide +kernel
theorem dX4_findClosure_46 : decode cX4_findClosure 46 = .ok (.aload_n 0, 1) := by decide +kernel
theorem dX4_findClosure_47 : decode cX4_findClosure 47 = .ok (.getfield 15, 3) := by decide +kernel
theorem dX4_findClosure_50 : decode cX4_findClosure 50 = .ok (.iload_n 3, 1) := by decide +kernel
theorem dX4_findClosure_51 : decode cX4_findClosure 51 = .ok (.aload_n 0, 1) := by decide +kernel
theorem dX4_findClosure_52 : decode cX4_findClosure 52 = .ok (.getfield 15, 3) := by decide +kernel
theorem dX4_findClosure_55 : decode cX4_findClosure 55 = .ok (.iload_n 3, 1) := by decide +kernel
theorem dX4_findClosure_56 : decode cX4_findClosure 56 = .ok (.invokestatic 52, 3) := by decide +kernel
theorem dX4_findClosure_59 : decode cX4_findClosure 59 = .ok (.aload_n 0, 1) := by decide +kernel
theorem dX4_findClosure_60 : decode cX4_findClosure 60 = .ok (.getfield 15, 3) := by decide +kernel
theorem dX4_findClosure_63 : decode cX4_findClosure 63 = .ok (.iload_n 2, 1) := by decide +kernel
theorem dX4_findClosure_64 : decode cX4_findClosure 64 = .ok (.invokestatic 52, 3) := by decide +kernel
theorem dX4_findClosure_67 : decode cX4_findClosure 67 = .ok (.ior, 1) := by decide +kernel
theorem dX4_findClosure_68 : decode cX4_findClosure 68 = .ok (.invokestatic 70, 3) := by decide +kernel
theorem dX4_findClosure_71 : decode cX4_findClosure 71 = .ok (.iinc 3 1, 3) := by decide +kernel
theorem dX4_findClosure_74 : decode cX4_findClosure 74 = .ok (.goto (-51), 3) := by decide +kernel
theorem dX4_findClosure_77 : decode cX4_findClosure 77 = .ok (.iinc 2 1, 3) := by decide +kernel
theorem dX4_findClosure_80 : decode cX4_findClosure 80 = .ok (.goto (-67), 3) := by decide +kernel
theorem dX4_findClosure_83 : decode cX4_findClosure 83 = .ok (.return_, 1) := by decide +kernel
theorem dX4_findEarliest_0 : decode cX4_findEarliest 0 = .ok (.aload_n 0, 1) := by decide +kernel
theorem dX4_findEarliest_1 : decode cX4_findEarliest 1 = .ok (.getfield 18, 3) := by decide +kernel
theorem dX4_findEarliest_4 : decode cX4_findEarliest 4 = .ok (.iconst (-1), 1) := by decide +kernel
theorem dX4_findEarliest_5 : decode cX4_findEarliest 5 = .ok (.invokestatic 84, 3) := by decide +kernel
theorem dX4_findEarliest_8 : decode cX4_findEarliest 8 = .ok (.aload_n 0, 1) := by decide +kernel
theorem dX4_findEarliest_9 : decode cX4_findEarliest 9 = .ok (.iconst 0, 1) := by decide +kernel
theorem dX4_findEarliest_10 : decode cX4_findEarliest 10 = .ok (.putfield 88, 3) := by decide +kernel
theorem dX4_findEarliest_13 : decode cX4_findEarliest 13 = .ok (.iconst 0, 1) := by decide +kernel
theorem dX4_findEarliest_14 : decode cX4_findEarliest 14 = .ok (.istore_n 2, 1) := by decide +kernel
theorem dX4_findEarliest_15 : decode cX4_findEarliest 15 = .ok (.iload_n 2, 1) := by decide +kernel
theorem dX4_findEarliest_16 : decode cX4_findEarliest 16 = .ok (.aload_n 1, 1) := by decide +kernel
theorem dX4_findEarliest_17 : decode cX4_findEarliest 17 = .ok (.getfield 60, 3) := by decide +kernel
theorem dX4_findEarliest_20 : decode cX4_findEarliest 20 = .ok (.if_icmp .ge 41, 3) := by decide +kernel
theorem dX4_findEarliest_23 : decode cX4_findEarliest 23 = .ok (.aload_n 1, 1) := by decide +kernel
theorem dX4_findEarliest_24 : decode cX4_findEarliest 24 = .ok (.aload_n 0, 1) := by decide +kernel
theorem dX4_findEarliest_25 : decode cX4_findEarliest 25 = .ok (.getfield 18, 3) := by decide +kernel
theorem dX4_findEarliest_28 : decode cX4_findEarliest 28 = .ok (.iload_n 2, 1) := by decide +kernel
theorem dX4_findEarliest_29 : decode cX4_findEarliest 29 = .ok (.iconst 0, 1) := by decide +kernel
theorem dX4_findEarliest_30 : decode cX4_findEarliest 30 = .ok (.invokestatic 91, 3) := by decide +kernel
theorem dX4_findEarliest_33 : decode cX4_findEarliest 33 = .ok (.istore_n 3, 1) := by decide +kernel
theorem dX4_findEarliest_34 : decode cX4_findEarliest 34 = .ok (.aload_n 0, 1) := by decide +kernel
theorem dX4_findEarliest_35 : decode cX4_findEarliest 35 = .ok (.aload_n 0, 1) := by decide +kernel
theorem dX4_findEarliest_36 : decode cX4_findEarliest 36 = .ok (.getfield 88, 3) := by decide +kernel
theorem dX4_findEarliest_39 : decode cX4_findEarliest 39 = .ok (.iload_n 3, 1) := by decide +kernel
theorem dX4_findEarliest_40 : decode cX4_findEarliest 40 = .ok (.aload_n 1, 1) := by decide +kernel
theorem dX4_findEarliest_41 : decode cX4_findEarliest 41 = .ok (.getfield 95, 3) := by decide +kernel
theorem dX4_findEarliest_44 : decode cX4_findEarliest 44 = .ok (.iload_n 2, 1) := by decide +kernel
theorem dX4_findEarliest_45 : decode cX4_findEarliest 45 = .ok (.invokestatic 52, 3) := by decide +kernel
theorem dX4_findEarliest_48 : decode cX4_findEarliest 48 = .ok (.iadd, 1) := by decide +kernel
theorem dX4_findEarliest_49 : decode cX4_findEarliest 49 = .ok (.invokestatic 98, 3) := by decide +kernel
theorem dX4_findEarliest_52 : decode cX4_findEarliest 52 = .ok (.putfield 88, 3) := by decide +kernel
theorem dX4_findEarliest_55 : decode cX4_findEarliest 55 = .ok (.iinc 2 1, 3) := by decide +kernel
theorem dX4_findEarliest_58 : decode cX4_findEarliest 58 = .ok (.goto (-43), 3) := by decide +kernel
theorem dX4_findEarliest_61 : decode cX4_findEarliest 61 = .ok (.return_, 1) := by decide +kernel
theorem dX4_earliestOf_0 : decode cX4_earliestOf 0 = .ok (.aload_n 1, 1) := by decide +kernel
theorem dX4_earliestOf_1 : decode cX4_earliestOf 1 = .ok (.iload_n 2, 1) := by decide +kernel
theorem dX4_earliestOf_2 : decode cX4_earliestOf 2 = .ok (.invokestatic 52, 3) := by decide +kernel
theorem dX4_earliestOf_5 : decode cX4_earliestOf 5 = .ok (.istore 4, 2) := by decide +kernel
theorem dX4_earliestOf_7 : decode cX4_earliestOf 7 = .ok (.iload 4, 2) := by decide +kernel
theorem dX4_earliestOf_9 : decode cX4_earliestOf 9 = .ok (.iconst (-1), 1) := by decide +kernel
theorem dX4_earliestOf_10 : decode cX4_earliestOf 10 = .ok (.if_icmp .ne 9, 3) := by decide +kernel
theorem dX4_earliestOf_13 : decode cX4_earliestOf 13 = .ok (.iload_n 3, 1) := by decide +kernel
theorem dX4_earliestOf_14 : decode cX4_earliestOf 14 = .ok (.bipush 12, 2) := by decide +kernel
theorem dX4_earliestOf_16 : decode cX4_earliestOf 16 = .ok (.if_icmp .le 6, 3) := by decide +kernel
theorem dX4_earliestOf_19 : decode cX4_earliestOf 19 = .ok (.iload 4, 2) := by decide +kernel
theorem dX4_earliestOf_21 : decode cX4_earliestOf 21 = .ok (.ireturn, 1) := by decide +kernel
theorem dX4_earliestOf_22 : decode cX4_earliestOf 22 = .ok (.aload_n 0, 1) := by decide +kernel
theorem dX4_earliestOf_23 : decode cX4_earliestOf 23 = .ok (.getfield 103, 3) := by decide +kernel
theorem dX4_earliestOf_26 : decode cX4_earliestOf 26 = .ok (.iload_n 2, 1) := by decide +kernel
theorem dX4_earliestOf_27 : decode cX4_earliestOf 27 = .ok (.invokestatic 52, 3) := by decide +kernel
theorem dX4_earliestOf_30 : decode cX4_earliestOf 30 = .ok (.istore 4, 2) := by decide +kernel
theorem dX4_earliestOf_32 : decode cX4_earliestOf 32 = .ok (.aload_n 0, 1) := by decide +kernel
theorem dX4_earliestOf_33 : decode cX4_earliestOf 33 = .ok (.getfield 74, 3) := by decide +kernel
theorem dX4_earliestOf_36 : decode cX4_earliestOf 36 = .ok (.iload_n 2, 1) := by decide +kernel
theorem dX4_earliestOf_37 : decode cX4_earliestOf 37 = .ok (.invokestatic 52, 3) := by decide +kernel
theorem dX4_earliestOf_40 : decode cX4_earliestOf 40 = .ok (.istore 5, 2) := by decide +kernel
theorem dX4_earliestOf_42 : decode cX4_earliestOf 42 = .ok (.iconst 0, 1) := by decide +kernel
theorem dX4_earliestOf_43 : decode cX4_earliestOf 43 = .ok (.istore 6, 2) := by decide +kernel
theorem dX4_earliestOf_45 : decode cX4_earliestOf 45 = .ok (.iload 6, 2) := by decide +kernel
theorem dX4_earliestOf_47 : decode cX4_earliestOf 47 = .ok (.aload_n 0, 1) := by decide +kernel
theorem dX4_earliestOf_48 : decode cX4_earliestOf 48 = .ok (.getfield 60, 3) := by decide +kernel
theorem dX4_earliestOf_51 : decode cX4_earliestOf 51 = .ok (.if_icmp .ge 50, 3) := by decide +kernel
theorem dX4_earliestOf_54 : decode cX4_earliestOf 54 = .ok (.iload 5, 2) := by decide +kernel
theorem dX4_earliestOf_56 : decode cX4_earliestOf 56 = .ok (.iload 6, 2) := by decide +kernel
theorem dX4_earliestOf_58 : decode cX4_earliestOf 58 = .ok (.invokestatic 81, 3) := by decide +kernel
theorem dX4_earliestOf_61 : decode cX4_earliestOf 61 = .ok (.ifCond .eq 34, 3) := by decide +kernel
theorem dX4_earliestOf_64 : decode cX4_earliestOf 64 = .ok (.aload_n 0, 1) := by decide +kernel
theorem dX4_earliestOf_65 : decode cX4_earliestOf 65 = .ok (.aload_n 1, 1) := by decide +kernel
theorem dX4_earliestOf_66 : decode cX4_earliestOf 66 = .ok (.iload 6, 2) := by decide +kernel
theorem dX4_earliestOf_68 : decode cX4_earliestOf 68 = .ok (.iload_n 3, 1) := by decide +kernel
theorem dX4_earliestOf_69 : decode cX4_earliestOf 69 = .ok (.iconst 1, 1) := by decide +kernel
theorem dX4_earliestOf_70 : decode cX4_earliestOf 70 = .ok (.iadd, 1) := by decide +kernel
theorem dX4_earliestOf_71 : decode cX4_earliestOf 71 = .ok (.invokestatic 91, 3) := by decide +kernel
theorem dX4_earliestOf_74 : decode cX4_earliestOf 74 = .ok (.aload_n 0, 1) := by decide +kernel
theorem dX4_earliestOf_75 : decode cX4_earliestOf 75 = .ok (.getfield 95, 3) := by decide +kernel
theorem dX4_earliestOf_78 : decode cX4_earliestOf 78 = .ok (.iload 6, 2) := by decide +kernel
theorem dX4_earliestOf_80 : decode cX4_earliestOf 80 = .ok (.invokestatic 52, 3) := by decide +kernel
theorem dX4_earliestOf_83 : decode cX4_earliestOf 83 = .ok (.iadd, 1) := by decide +kernel
theorem dX4_earliestOf_84 : decode cX4_earliestOf 84 = .ok (.istore 7, 2) := by decide +kernel
theorem dX4_earliestOf_86 : decode cX4_earliestOf 86 = .ok (.iload 4, 2) := by decide +kernel
theorem dX4_earliestOf_88 : decode cX4_earliestOf 88 = .ok (.iload 7, 2) := by decide +kernel
theorem dX4_earliestOf_90 : decode cX4_earliestOf 90 = .ok (.invokestatic 98, 3) := by decide +kernel
theorem dX4_earliestOf_93 : decode cX4_earliestOf 93 = .ok (.istore 4, 2) := by decide +kernel
theorem dX4_earliestOf_95 : decode cX4_earliestOf 95 = .ok (.iinc 6 1, 3) := by decide +kernel
theorem dX4_earliestOf_98 : decode cX4_earliestOf 98 = .ok (.goto (-53), 3) := by decide +kernel
theorem dX4_earliestOf_101 : decode cX4_earliestOf 101 = .ok (.aload_n 1, 1) := by decide +kernel
theorem dX4_earliestOf_102 : decode cX4_earliestOf 102 = .ok (.iload_n 2, 1) := by decide +kernel
theorem dX4_earliestOf_103 : decode cX4_earliestOf 103 = .ok (.iload 4, 2) := by decide +kernel
theorem dX4_earliestOf_105 : decode cX4_earliestOf 105 = .ok (.invokestatic 70, 3) := by decide +kernel
theorem dX4_earliestOf_108 : decode cX4_earliestOf 108 = .ok (.iload 4, 2) := by decide +kernel
theorem dX4_earliestOf_110 : decode cX4_earliestOf 110 = .ok (.ireturn, 1) := by decide +kernel
theorem dX4_findImproved_0 : decode cX4_findImproved 0 = .ok (.aload_n 1, 1) := by decide +kernel
theorem dX4_findImproved_1 : decode cX4_findImproved 1 = .ok (.getfield 103, 3) := by decide +kernel
theorem dX4_findImproved_4 : decode cX4_findImproved 4 = .ok (.aload_n 0, 1) := by decide +kernel
theorem dX4_findImproved_5 : decode cX4_findImproved 5 = .ok (.getfield 21, 3) := by decide +kernel
theorem dX4_findImproved_8 : decode cX4_findImproved 8 = .ok (.invokestatic 77, 3) := by decide +kernel
theorem dX4_findImproved_11 : decode cX4_findImproved 11 = .ok (.iconst 1, 1) := by decide +kernel
theorem dX4_findImproved_12 : decode cX4_findImproved 12 = .ok (.istore_n 2, 1) := by decide +kernel
theorem dX4_findImproved_13 : decode cX4_findImproved 13 = .ok (.iconst 0, 1) := by decide +kernel
theorem dX4_findImproved_14 : decode cX4_findImproved 14 = .ok (.istore_n 3, 1) := by decide +kernel
theorem dX4_findImproved_15 : decode cX4_findImproved 15 = .ok (.iload_n 2, 1) := by decide +kernel
theorem dX4_findImproved_16 : decode cX4_findImproved 16 = .ok (.ifCond .eq 21, 3) := by decide +kernel
theorem dX4_findImproved_19 : decode cX4_findImproved 19 = .ok (.iload_n 3, 1) := by decide +kernel
theorem dX4_findImproved_20 : decode cX4_findImproved 20 = .ok (.bipush 12, 2) := by decide +kernel
theorem dX4_findImproved_22 : decode cX4_findImproved 22 = .ok (.if_icmp .ge 15, 3) := by decide +kernel
theorem dX4_findImproved_25 : decode cX4_findImproved 25 = .ok (.aload_n 0, 1) := by decide +kernel
theorem dX4_findImproved_26 : decode cX4_findImproved 26 = .ok (.aload_n 1, 1) := by decide +kernel
theorem dX4_findImproved_27 : decode cX4_findImproved 27 = .ok (.invokevirtual 106, 3) := by decide +kernel
theorem dX4_findImproved_30 : decode cX4_findImproved 30 = .ok (.istore_n 2, 1) := by decide +kernel
theorem dX4_findImproved_31 : decode cX4_findImproved 31 = .ok (.iinc 3 1, 3) := by decide +kernel
theorem dX4_findImproved_34 : decode cX4_findImproved 34 = .ok (.goto (-19), 3) := by decide +kernel
theorem dX4_findImproved_37 : decode cX4_findImproved 37 = .ok (.return_, 1) := by decide +kernel
theorem dX4_improve_0 : decode cX4_improve 0 = .ok (.iconst 0, 1) := by decide +kernel
theorem dX4_improve_1 : decode cX4_improve 1 = .ok (.istore_n 2, 1) := by decide +kernel
theorem dX4_improve_2 : decode cX4_improve 2 = .ok (.iconst 0, 1) := by decide +kernel
theorem dX4_improve_3 : decode cX4_improve 3 = .ok (.istore_n 3, 1) := by decide +kernel
theorem dX4_improve_4 : decode cX4_improve 4 = .ok (.iload_n 3, 1) := by decide +kernel
theorem dX4_improve_5 : decode cX4_improve 5 = .ok (.aload_n 1, 1) := by decide +kernel
theorem dX4_improve_6 : decode cX4_improve 6 = .ok (.getfield 60, 3) := by decide +kernel
theorem dX4_improve_9 : decode cX4_improve 9 = .ok (.if_icmp .ge 45, 3) := by decide +kernel
theorem dX4_improve_12 : decode cX4_improve 12 = .ok (.aload_n 1, 1) := by decide +kernel
theorem dX4_improve_13 : decode cX4_improve 13 = .ok (.iload_n 3, 1) := by decide +kernel
theorem dX4_improve_14 : decode cX4_improve 14 = .ok (.aload_n 0, 1) := by decide +kernel
theorem dX4_improve_15 : decode cX4_improve 15 = .ok (.getfield 21, 3) := by decide +kernel
theorem dX4_improve_18 : decode cX4_improve 18 = .ok (.invokestatic 110, 3) := by decide +kernel
theorem dX4_improve_21 : decode cX4_improve 21 = .ok (.istore 4, 2) := by decide +kernel
theorem dX4_improve_23 : decode cX4_improve 23 = .ok (.iload 4, 2) := by decide +kernel
theorem dX4_improve_25 : decode cX4_improve 25 = .ok (.aload_n 0, 1) := by decide +kernel
theorem dX4_improve_26 : decode cX4_improve 26 = .ok (.getfield 21, 3) := by decide +kernel
theorem dX4_improve_29 : decode cX4_improve 29 = .ok (.iload_n 3, 1) := by decide +kernel
theorem dX4_improve_30 : decode cX4_improve 30 = .ok (.invokestatic 52, 3) := by decide +kernel
theorem dX4_improve_33 : decode cX4_improve 33 = .ok (.if_icmp .le 15, 3) := by decide +kernel
theorem dX4_improve_36 : decode cX4_improve 36 = .ok (.aload_n 0, 1) := by decide +kernel
theorem dX4_improve_37 : decode cX4_improve 37 = .ok (.getfield 21, 3) := by decide +kernel
theorem dX4_improve_40 : decode cX4_improve 40 = .ok (.iload_n 3, 1) := by decide +kernel
theorem dX4_improve_41 : decode cX4_improve 41 = .ok (.iload 4, 2) := by decide +kernel
theorem dX4_improve_43 : decode cX4_improve 43 = .ok (.invokestatic 70, 3) := by decide +kernel
theorem dX4_improve_46 : decode cX4_improve 46 = .ok (.iconst 1, 1) := by decide +kernel
theorem dX4_improve_47 : decode cX4_improve 47 = .ok (.istore_n 2, 1) := by decide +kernel
theorem dX4_improve_48 : decode cX4_improve 48 = .ok (.iinc 3 1, 3) := by decide +kernel
theorem dX4_improve_51 : decode cX4_improve 51 = .ok (.goto (-47), 3) := by decide +kernel
theorem dX4_improve_54 : decode cX4_improve 54 = .ok (.iload_n 2, 1) := by decide +kernel
theorem dX4_improve_55 : decode cX4_improve 55 = .ok (.ireturn, 1) := by decide +kernel
theorem dX4_soonestStart_0 : decode cX4_soonestStart 0 = .ok (.aload_n 0, 1) := by decide +kernel
theorem dX4_soonestStart_1 : decode cX4_soonestStart 1 = .ok (.getfield 103, 3) := by decide +kernel
theorem dX4_soonestStart_4 : decode cX4_soonestStart 4 = .ok (.iload_n 1, 1) := by decide +kernel
theorem dX4_soonestStart_5 : decode cX4_soonestStart 5 = .ok (.invokestatic 52, 3) := by decide +kernel
theorem dX4_soonestStart_8 : decode cX4_soonestStart 8 = .ok (.istore_n 3, 1) := by decide +kernel
theorem dX4_soonestStart_9 : decode cX4_soonestStart 9 = .ok (.aload_n 0, 1) := by decide +kernel
theorem dX4_soonestStart_10 : decode cX4_soonestStart 10 = .ok (.getfield 74, 3) := by decide +kernel
theorem dX4_soonestStart_13 : decode cX4_soonestStart 13 = .ok (.iload_n 1, 1) := by decide +kernel
theorem dX4_soonestStart_14 : decode cX4_soonestStart 14 = .ok (.invokestatic 52, 3) := by decide +kernel
theorem dX4_soonestStart_17 : decode cX4_soonestStart 17 = .ok (.istore 4, 2) := by decide +kernel
theorem dX4_soonestStart_19 : decode cX4_soonestStart 19 = .ok (.iconst 0, 1) := by decide +kernel
theorem dX4_soonestStart_20 : decode cX4_soonestStart 20 = .ok (.istore 5, 2) := by decide +kernel
theorem dX4_soonestStart_22 : decode cX4_soonestStart 22 = .ok (.iload 5, 2) := by decide +kernel
theorem dX4_soonestStart_24 : decode cX4_soonestStart 24 = .ok (.aload_n 0, 1) := by decide +kernel
theorem dX4_soonestStart_25 : decode cX4_soonestStart 25 = .ok (.getfield 60, 3) := by decide +kernel
theorem dX4_soonestStart_28 : decode cX4_soonestStart 28 = .ok (.if_icmp .ge 40, 3) := by decide +kernel
theorem dX4_soonestStart_31 : decode cX4_soonestStart 31 = .ok (.iload 4, 2) := by decide +kernel
theorem dX4_soonestStart_33 : decode cX4_soonestStart 33 = .ok (.iload 5, 2) := by decide +kernel
theorem dX4_soonestStart_35 : decode cX4_soonestStart 35 = .ok (.invokestatic 81, 3) := by decide +kernel
theorem dX4_soonestStart_38 : decode cX4_soonestStart 38 = .ok (.ifCond .eq 24, 3) := by decide +kernel
theorem dX4_soonestStart_41 : decode cX4_soonestStart 41 = .ok (.iload_n 3, 1) := by decide +kernel
theorem dX4_soonestStart_42 : decode cX4_soonestStart 42 = .ok (.aload_n 2, 1) := by decide +kernel
theorem dX4_soonestStart_43 : decode cX4_soonestStart 43 = .ok (.iload 5, 2) := by decide +kernel
theorem dX4_soonestStart_45 : decode cX4_soonestStart 45 = .ok (.invokestatic 52, 3) := by decide +kernel
theorem dX4_soonestStart_48 : decode cX4_soonestStart 48 = .ok (.aload_n 0, 1) := by decide +kernel
theorem dX4_soonestStart_49 : decode cX4_soonestStart 49 = .ok (.getfield 95, 3) := by decide +kernel
theorem dX4_soonestStart_52 : decode cX4_soonestStart 52 = .ok (.iload 5, 2) := by decide +kernel
theorem dX4_soonestStart_54 : decode cX4_soonestStart 54 = .ok (.invokestatic 52, 3) := by decide +kernel
theorem dX4_soonestStart_57 : decode cX4_soonestStart 57 = .ok (.iadd, 1) := by decide +kernel
theorem dX4_soonestStart_58 : decode cX4_soonestStart 58 = .ok (.invokestatic 98, 3) := by decide +kernel
theorem dX4_soonestStart_61 : decode cX4_soonestStart 61 = .ok (.istore_n 3, 1) := by decide +kernel
theorem dX4_soonestStart_62 : decode cX4_soonestStart 62 = .ok (.iinc 5 1, 3) := by decide +kernel
theorem dX4_soonestStart_65 : decode cX4_soonestStart 65 = .ok (.goto (-43), 3) := by decide +kernel
theorem dX4_soonestStart_68 : decode cX4_soonestStart 68 = .ok (.iload_n 3, 1) := by decide +kernel
theorem dX4_soonestStart_69 : decode cX4_soonestStart 69 = .ok (.ireturn, 1) := by decide +kernel
theorem dX4_findLatest_0 : decode cX4_findLatest 0 = .ok (.aload_n 1, 1) := by decide +kernel
theorem dX4_findLatest_1 : decode cX4_findLatest 1 = .ok (.getfield 60, 3) := by decide +kernel
theorem dX4_findLatest_4 : decode cX4_findLatest 4 = .ok (.iconst 1, 1) := by decide +kernel
theorem dX4_findLatest_5 : decode cX4_findLatest 5 = .ok (.isub, 1) := by decide +kernel
theorem dX4_findLatest_6 : decode cX4_findLatest 6 = .ok (.istore_n 2, 1) := by decide +kernel
theorem dX4_findLatest_7 : decode cX4_findLatest 7 = .ok (.iload_n 2, 1) := by decide +kernel
theorem dX4_findLatest_8 : decode cX4_findLatest 8 = .ok (.ifCond .lt 87, 3) := by decide +kernel
theorem dX4_findLatest_11 : decode cX4_findLatest 11 = .ok (.aload_n 0, 1) := by decide +kernel
theorem dX4_findLatest_12 : decode cX4_findLatest 12 = .ok (.getfield 9, 3) := by decide +kernel
theorem dX4_findLatest_15 : decode cX4_findLatest 15 = .ok (.iload_n 2, 1) := by decide +kernel
theorem dX4_findLatest_16 : decode cX4_findLatest 16 = .ok (.invokestatic 52, 3) := by decide +kernel
theorem dX4_findLatest_19 : decode cX4_findLatest 19 = .ok (.istore_n 3, 1) := by decide +kernel
theorem dX4_findLatest_20 : decode cX4_findLatest 20 = .ok (.aload_n 0, 1) := by decide +kernel
theorem dX4_findLatest_21 : decode cX4_findLatest 21 = .ok (.getfield 88, 3) := by decide +kernel
theorem dX4_findLatest_24 : decode cX4_findLatest 24 = .ok (.istore 4, 2) := by decide +kernel
theorem dX4_findLatest_26 : decode cX4_findLatest 26 = .ok (.iconst 0, 1) := by decide +kernel
theorem dX4_findLatest_27 : decode cX4_findLatest 27 = .ok (.istore 5, 2) := by decide +kernel
theorem dX4_findLatest_29 : decode cX4_findLatest 29 = .ok (.iload 5, 2) := by decide +kernel
theorem dX4_findLatest_31 : decode cX4_findLatest 31 = .ok (.aload_n 1, 1) := by decide +kernel
theorem dX4_findLatest_32 : decode cX4_findLatest 32 = .ok (.getfield 60, 3) := by decide +kernel
theorem dX4_findLatest_35 : decode cX4_findLatest 35 = .ok (.if_icmp .ge 35, 3) := by decide +kernel
theorem dX4_findLatest_38 : decode cX4_findLatest 38 = .ok (.aload_n 1, 1) := by decide +kernel
theorem dX4_findLatest_39 : decode cX4_findLatest 39 = .ok (.iload 5, 2) := by decide +kernel
theorem dX4_findLatest_41 : decode cX4_findLatest 41 = .ok (.iload_n 3, 1) := by decide +kernel
theorem dX4_findLatest_42 : decode cX4_findLatest 42 = .ok (.invokevirtual 114, 3) := by decide +kernel
theorem dX4_findLatest_45 : decode cX4_findLatest 45 = .ok (.ifCond .eq 19, 3) := by decide +kernel
theorem dX4_findLatest_48 : decode cX4_findLatest 48 = .ok (.iload 4, 2) := by decide +kernel
theorem dX4_findLatest_50 : decode cX4_findLatest 50 = .ok (.aload_n 0, 1) := by decide +kernel
theorem dX4_findLatest_51 : decode cX4_findLatest 51 = .ok (.getfield 24, 3) := by decide +kernel
theorem dX4_findLatest_54 : decode cX4_findLatest 54 = .ok (.iload 5, 2) := by decide +kernel
theorem dX4_findLatest_56 : decode cX4_findLatest 56 = .ok (.invokestatic 52, 3) := by decide +kernel
theorem dX4_findLatest_59 : decode cX4_findLatest 59 = .ok (.invokestatic 117, 3) := by decide +kernel
theorem dX4_findLatest_62 : decode cX4_findLatest 62 = .ok (.istore 4, 2) := by decide +kernel
theorem dX4_findLatest_64 : decode cX4_findLatest 64 = .ok (.iinc 5 1, 3) := by decide +kernel
theorem dX4_findLatest_67 : decode cX4_findLatest 67 = .ok (.goto (-38), 3) := by decide +kernel
theorem dX4_findLatest_70 : decode cX4_findLatest 70 = .ok (.aload_n 0, 1) := by decide +kernel
theorem dX4_findLatest_71 : decode cX4_findLatest 71 = .ok (.getfield 24, 3) := by decide +kernel
theorem dX4_findLatest_74 : decode cX4_findLatest 74 = .ok (.iload_n 3, 1) := by decide +kernel
theorem dX4_findLatest_75 : decode cX4_findLatest 75 = .ok (.iload 4, 2) := by decide +kernel
theorem dX4_findLatest_77 : decode cX4_findLatest 77 = .ok (.aload_n 1, 1) := by decide +kernel
theorem dX4_findLatest_78 : decode cX4_findLatest 78 = .ok (.getfield 95, 3) := by decide +kernel
theorem dX4_findLatest_81 : decode cX4_findLatest 81 = .ok (.iload_n 3, 1) := by decide +kernel
theorem dX4_findLatest_82 : decode cX4_findLatest 82 = .ok (.invokestatic 52, 3) := by decide +kernel
theorem dX4_findLatest_85 : decode cX4_findLatest 85 = .ok (.isub, 1) := by decide +kernel
theorem dX4_findLatest_86 : decode cX4_findLatest 86 = .ok (.invokestatic 70, 3) := by decide +kernel
theorem dX4_findLatest_89 : decode cX4_findLatest 89 = .ok (.iinc 2 (-1), 3) := by decide +kernel
theorem dX4_findLatest_92 : decode cX4_findLatest 92 = .ok (.goto (-85), 3) := by decide +kernel
theorem dX4_findLatest_95 : decode cX4_findLatest 95 = .ok (.return_, 1) := by decide +kernel
theorem dX4_findLevelled_0 : decode cX4_findLevelled 0 = .ok (.aload_n 0, 1) := by decide +kernel
theorem dX4_findLevelled_1 : decode cX4_findLevelled 1 = .ok (.getfield 30, 3) := by decide +kernel
theorem dX4_findLevelled_4 : decode cX4_findLevelled 4 = .ok (.iconst 0, 1) := by decide +kernel
theorem dX4_findLevelled_5 : decode cX4_findLevelled 5 = .ok (.invokestatic 84, 3) := by decide +kernel
theorem dX4_findLevelled_8 : decode cX4_findLevelled 8 = .ok (.aload_n 0, 1) := by decide +kernel
theorem dX4_findLevelled_9 : decode cX4_findLevelled 9 = .ok (.iconst 0, 1) := by decide +kernel
theorem dX4_findLevelled_10 : decode cX4_findLevelled 10 = .ok (.putfield 120, 3) := by decide +kernel
theorem dX4_findLevelled_13 : decode cX4_findLevelled 13 = .ok (.iconst 0, 1) := by decide +kernel
theorem dX4_findLevelled_14 : decode cX4_findLevelled 14 = .ok (.istore_n 2, 1) := by decide +kernel
theorem dX4_findLevelled_15 : decode cX4_findLevelled 15 = .ok (.iconst 0, 1) := by decide +kernel
theorem dX4_findLevelled_16 : decode cX4_findLevelled 16 = .ok (.istore_n 3, 1) := by decide +kernel
theorem dX4_findLevelled_17 : decode cX4_findLevelled 17 = .ok (.iload_n 3, 1) := by decide +kernel
theorem dX4_findLevelled_18 : decode cX4_findLevelled 18 = .ok (.aload_n 1, 1) := by decide +kernel
theorem dX4_findLevelled_19 : decode cX4_findLevelled 19 = .ok (.getfield 60, 3) := by decide +kernel
theorem dX4_findLevelled_22 : decode cX4_findLevelled 22 = .ok (.if_icmp .ge 38, 3) := by decide +kernel
theorem dX4_findLevelled_25 : decode cX4_findLevelled 25 = .ok (.aload_n 0, 1) := by decide +kernel
theorem dX4_findLevelled_26 : decode cX4_findLevelled 26 = .ok (.aload_n 1, 1) := by decide +kernel
theorem dX4_findLevelled_27 : decode cX4_findLevelled 27 = .ok (.iload_n 2, 1) := by decide +kernel
theorem dX4_findLevelled_28 : decode cX4_findLevelled 28 = .ok (.invokevirtual 123, 3) := by decide +kernel
theorem dX4_findLevelled_31 : decode cX4_findLevelled 31 = .ok (.istore 4, 2) := by decide +kernel
theorem dX4_findLevelled_33 : decode cX4_findLevelled 33 = .ok (.aload_n 0, 1) := by decide +kernel
theorem dX4_findLevelled_34 : decode cX4_findLevelled 34 = .ok (.aload_n 1, 1) := by decide +kernel
theorem dX4_findLevelled_35 : decode cX4_findLevelled 35 = .ok (.iload 4, 2) := by decide +kernel
theorem dX4_findLevelled_37 : decode cX4_findLevelled 37 = .ok (.aload_n 0, 1) := by decide +kernel
theorem dX4_findLevelled_38 : decode cX4_findLevelled 38 = .ok (.aload_n 1, 1) := by decide +kernel
theorem dX4_findLevelled_39 : decode cX4_findLevelled 39 = .ok (.iload 4, 2) := by decide +kernel
theorem dX4_findLevelled_41 : decode cX4_findLevelled 41 = .ok (.invokevirtual 127, 3) := by decide +kernel
theorem dX4_findLevelled_44 : decode cX4_findLevelled 44 = .ok (.invokevirtual 130, 3) := by decide +kernel
theorem dX4_findLevelled_47 : decode cX4_findLevelled 47 = .ok (.iload_n 2, 1) := by decide +kernel
theorem dX4_findLevelled_48 : decode cX4_findLevelled 48 = .ok (.iconst 1, 1) := by decide +kernel
theorem dX4_findLevelled_49 : decode cX4_findLevelled 49 = .ok (.iload 4, 2) := by decide +kernel
theorem dX4_findLevelled_51 : decode cX4_findLevelled 51 = .ok (.ishl, 1) := by decide +kernel
theorem dX4_findLevelled_52 : decode cX4_findLevelled 52 = .ok (.ior, 1) := by decide +kernel
theorem dX4_findLevelled_53 : decode cX4_findLevelled 53 = .ok (.istore_n 2, 1) := by decide +kernel
theorem dX4_findLevelled_54 : decode cX4_findLevelled 54 = .ok (.iinc 3 1, 3) := by decide +kernel
theorem dX4_findLevelled_57 : decode cX4_findLevelled 57 = .ok (.goto (-40), 3) := by decide +kernel
theorem dX4_findLevelled_60 : decode cX4_findLevelled 60 = .ok (.return_, 1) := by decide +kernel
theorem dX4_mostUrgent_0 : decode cX4_mostUrgent 0 = .ok (.iconst (-1), 1) := by decide +kernel
theorem dX4_mostUrgent_1 : decode cX4_mostUrgent 1 = .ok (.istore_n 3, 1) := by decide +kernel
theorem dX4_mostUrgent_2 : decode cX4_mostUrgent 2 = .ok (.iconst 0, 1) := by decide +kernel
theorem dX4_mostUrgent_3 : decode cX4_mostUrgent 3 = .ok (.istore 4, 2) := by decide +kernel
theorem dX4_mostUrgent_5 : decode cX4_mostUrgent 5 = .ok (.iload 4, 2) := by decide +kernel
theorem dX4_mostUrgent_7 : decode cX4_mostUrgent 7 = .ok (.aload_n 1, 1) := by decide +kernel
theorem dX4_mostUrgent_8 : decode cX4_mostUrgent 8 = .ok (.getfield 60, 3) := by decide +kernel
theorem dX4_mostUrgent_11 : decode cX4_mostUrgent 11 = .ok (.if_icmp .ge 51, 3) := by decide +kernel
theorem dX4_mostUrgent_14 : decode cX4_mostUrgent 14 = .ok (.aload_n 1, 1) := by decide +kernel
theorem dX4_mostUrgent_15 : decode cX4_mostUrgent 15 = .ok (.iload 4, 2) := by decide +kernel
theorem dX4_mostUrgent_17 : decode cX4_mostUrgent 17 = .ok (.iload_n 2, 1) := by decide +kernel
theorem dX4_mostUrgent_18 : decode cX4_mostUrgent 18 = .ok (.invokevirtual 66, 3) := by decide +kernel
theorem dX4_mostUrgent_21 : decode cX4_mostUrgent 21 = .ok (.istore 5, 2) := by decide +kernel
theorem dX4_mostUrgent_23 : decode cX4_mostUrgent 23 = .ok (.iload 5, 2) := by decide +kernel
theorem dX4_mostUrgent_25 : decode cX4_mostUrgent 25 = .ok (.ifCond .eq 31, 3) := by decide +kernel
theorem dX4_mostUrgent_28 : decode cX4_mostUrgent 28 = .ok (.iload_n 3, 1) := by decide +kernel
theorem dX4_mostUrgent_29 : decode cX4_mostUrgent 29 = .ok (.iconst (-1), 1) := by decide +kernel
theorem dX4_mostUrgent_30 : decode cX4_mostUrgent 30 = .ok (.if_icmp .eq 23, 3) := by decide +kernel
theorem dX4_mostUrgent_33 : decode cX4_mostUrgent 33 = .ok (.aload_n 0, 1) := by decide +kernel
theorem dX4_mostUrgent_34 : decode cX4_mostUrgent 34 = .ok (.getfield 24, 3) := by decide +kernel
theorem dX4_mostUrgent_37 : decode cX4_mostUrgent 37 = .ok (.iload 4, 2) := by decide +kernel
theorem dX4_mostUrgent_39 : decode cX4_mostUrgent 39 = .ok (.invokestatic 52, 3) := by decide +kernel
theorem dX4_mostUrgent_42 : decode cX4_mostUrgent 42 = .ok (.aload_n 0, 1) := by decide +kernel
theorem dX4_mostUrgent_43 : decode cX4_mostUrgent 43 = .ok (.getfield 24, 3) := by decide +kernel
theorem dX4_mostUrgent_46 : decode cX4_mostUrgent 46 = .ok (.iload_n 3, 1) := by decide +kernel
theorem dX4_mostUrgent_47 : decode cX4_mostUrgent 47 = .ok (.invokestatic 52, 3) := by decide +kernel
theorem dX4_mostUrgent_50 : decode cX4_mostUrgent 50 = .ok (.if_icmp .ge 6, 3) := by decide +kernel
theorem dX4_mostUrgent_53 : decode cX4_mostUrgent 53 = .ok (.iload 4, 2) := by decide +kernel
theorem dX4_mostUrgent_55 : decode cX4_mostUrgent 55 = .ok (.istore_n 3, 1) := by decide +kernel
theorem dX4_mostUrgent_56 : decode cX4_mostUrgent 56 = .ok (.iinc 4 1, 3) := by decide +kernel
theorem dX4_mostUrgent_59 : decode cX4_mostUrgent 59 = .ok (.goto (-54), 3) := by decide +kernel
theorem dX4_mostUrgent_62 : decode cX4_mostUrgent 62 = .ok (.iload_n 3, 1) := by decide +kernel
theorem dX4_mostUrgent_63 : decode cX4_mostUrgent 63 = .ok (.ireturn, 1) := by decide +kernel
theorem dX4_lowestFit_0 : decode cX4_lowestFit 0 = .ok (.aload_n 1, 1) := by decide +kernel
theorem dX4_lowestFit_1 : decode cX4_lowestFit 1 = .ok (.iload_n 2, 1) := by decide +kernel
theorem dX4_lowestFit_2 : decode cX4_lowestFit 2 = .ok (.aload_n 0, 1) := by decide +kernel
theorem dX4_lowestFit_3 : decode cX4_lowestFit 3 = .ok (.getfield 27, 3) := by decide +kernel
theorem dX4_lowestFit_6 : decode cX4_lowestFit 6 = .ok (.invokestatic 110, 3) := by decide +kernel
theorem dX4_lowestFit_9 : decode cX4_lowestFit 9 = .ok (.istore_n 3, 1) := by decide +kernel
theorem dX4_lowestFit_10 : decode cX4_lowestFit 10 = .ok (.iload_n 3, 1) := by decide +kernel
theorem dX4_lowestFit_11 : decode cX4_lowestFit 11 = .ok (.sipush 138, 3) := by decide +kernel
theorem dX4_lowestFit_14 : decode cX4_lowestFit 14 = .ok (.if_icmp .ge 19, 3) := by decide +kernel
theorem dX4_lowestFit_17 : decode cX4_lowestFit 17 = .ok (.aload_n 0, 1) := by decide +kernel
theorem dX4_lowestFit_18 : decode cX4_lowestFit 18 = .ok (.aload_n 1, 1) := by decide +kernel
theorem dX4_lowestFit_19 : decode cX4_lowestFit 19 = .ok (.iload_n 2, 1) := by decide +kernel
theorem dX4_lowestFit_20 : decode cX4_lowestFit 20 = .ok (.iload_n 3, 1) := by decide +kernel
theorem dX4_lowestFit_21 : decode cX4_lowestFit 21 = .ok (.invokevirtual 134, 3) := by decide +kernel
theorem dX4_lowestFit_24 : decode cX4_lowestFit 24 = .ok (.ifCond .ne 9, 3) := by decide +kernel
theorem dX4_lowestFit_27 : decode cX4_lowestFit 27 = .ok (.iinc 3 1, 3) := by decide +kernel
theorem dX4_lowestFit_30 : decode cX4_lowestFit 30 = .ok (.goto (-20), 3) := by decide +kernel
theorem dX4_lowestFit_33 : decode cX4_lowestFit 33 = .ok (.iload_n 3, 1) := by decide +kernel
theorem dX4_lowestFit_34 : decode cX4_lowestFit 34 = .ok (.ireturn, 1) := by decide +kernel
theorem dX4_fits_0 : decode cX4_fits 0 = .ok (.aload_n 1, 1) := by decide +kernel
theorem dX4_fits_1 : decode cX4_fits 1 = .ok (.getfield 138, 3) := by decide +kernel
theorem dX4_fits_4 : decode cX4_fits 4 = .ok (.iload_n 2, 1) := by decide +kernel
theorem dX4_fits_5 : decode cX4_fits 5 = .ok (.invokestatic 52, 3) := by decide +kernel
theorem dX4_fits_8 : decode cX4_fits 8 = .ok (.istore 4, 2) := by decide +kernel
theorem dX4_fits_10 : decode cX4_fits 10 = .ok (.iload 4, 2) := by decide +kernel
theorem dX4_fits_12 : decode cX4_fits 12 = .ok (.sipush 138, 3) := by decide +kernel
theorem dX4_fits_15 : decode cX4_fits 15 = .ok (.imul, 1) := by decide +kernel
theorem dX4_fits_16 : decode cX4_fits 16 = .ok (.istore 5, 2) := by decide +kernel
theorem dX4_fits_18 : decode cX4_fits 18 = .ok (.aload_n 1, 1) := by decide +kernel
theorem dX4_fits_19 : decode cX4_fits 19 = .ok (.getfield 141, 3) := by decide +kernel
theorem dX4_fits_22 : decode cX4_fits 22 = .ok (.iload 4, 2) := by decide +kernel
theorem dX4_fits_24 : decode cX4_fits 24 = .ok (.invokestatic 52, 3) := by decide +kernel
theorem dX4_fits_27 : decode cX4_fits 27 = .ok (.aload_n 1, 1) := by decide +kernel
theorem dX4_fits_28 : decode cX4_fits 28 = .ok (.getfield 144, 3) := by decide +kernel
theorem dX4_fits_31 : decode cX4_fits 31 = .ok (.iload_n 2, 1) := by decide +kernel
theorem dX4_fits_32 : decode cX4_fits 32 = .ok (.invokestatic 52, 3) := by decide +kernel
theorem dX4_fits_35 : decode cX4_fits 35 = .ok (.isub, 1) := by decide +kernel
theorem dX4_fits_36 : decode cX4_fits 36 = .ok (.istore 6, 2) := by decide +kernel
theorem dX4_fits_38 : decode cX4_fits 38 = .ok (.iload_n 3, 1) := by decide +kernel
theorem dX4_fits_39 : decode cX4_fits 39 = .ok (.aload_n 1, 1) := by decide +kernel
theorem dX4_fits_40 : decode cX4_fits 40 = .ok (.getfield 95, 3) := by decide +kernel
theorem dX4_fits_43 : decode cX4_fits 43 = .ok (.iload_n 2, 1) := by decide +kernel
theorem dX4_fits_44 : decode cX4_fits 44 = .ok (.invokestatic 52, 3) := by decide +kernel
theorem dX4_fits_47 : decode cX4_fits 47 = .ok (.iadd, 1) := by decide +kernel
theorem dX4_fits_48 : decode cX4_fits 48 = .ok (.istore 7, 2) := by decide +kernel
theorem dX4_fits_50 : decode cX4_fits 50 = .ok (.iload_n 3, 1) := by decide +kernel
theorem dX4_fits_51 : decode cX4_fits 51 = .ok (.istore 8, 2) := by decide +kernel
theorem dX4_fits_53 : decode cX4_fits 53 = .ok (.iload 8, 2) := by decide +kernel
theorem dX4_fits_55 : decode cX4_fits 55 = .ok (.iload 7, 2) := by decide +kernel
theorem dX4_fits_57 : decode cX4_fits 57 = .ok (.if_icmp .ge 28, 3) := by decide +kernel
theorem dX4_fits_60 : decode cX4_fits 60 = .ok (.aload_n 0, 1) := by decide +kernel
theorem dX4_fits_61 : decode cX4_fits 61 = .ok (.getfield 30, 3) := by decide +kernel
theorem dX4_fits_64 : decode cX4_fits 64 = .ok (.iload 5, 2) := by decide +kernel
theorem dX4_fits_66 : decode cX4_fits 66 = .ok (.iload 8, 2) := by decide +kernel
theorem dX4_fits_68 : decode cX4_fits 68 = .ok (.iadd, 1) := by decide +kernel
theorem dX4_fits_69 : decode cX4_fits 69 = .ok (.invokestatic 52, 3) := by decide +kernel
theorem dX4_fits_72 : decode cX4_fits 72 = .ok (.iload 6, 2) := by decide +kernel
theorem dX4_fits_74 : decode cX4_fits 74 = .ok (.if_icmp .le 5, 3) := by decide +kernel
theorem dX4_fits_77 : decode cX4_fits 77 = .ok (.iconst 0, 1) := by decide +kernel
theorem dX4_fits_78 : decode cX4_fits 78 = .ok (.ireturn, 1) := by decide +kernel
theorem dX4_fits_79 : decode cX4_fits 79 = .ok (.iinc 8 1, 3) := by decide +kernel
theorem dX4_fits_82 : decode cX4_fits 82 = .ok (.goto (-29), 3) := by decide +kernel
theorem dX4_fits_85 : decode cX4_fits 85 = .ok (.iconst 1, 1) := by decide +kernel
theorem dX4_fits_86 : decode cX4_fits 86 = .ok (.ireturn, 1) := by decide +kernel
theorem dX4_place_0 : decode cX4_place 0 = .ok (.aload_n 0, 1) := by decide +kernel
theorem dX4_place_1 : decode cX4_place 1 = .ok (.getfield 27, 3) := by decide +kernel
theorem dX4_place_4 : decode cX4_place 4 = .ok (.iload_n 2, 1) := by decide +kernel
theorem dX4_place_5 : decode cX4_place 5 = .ok (.iload_n 3, 1) := by decide +kernel
theorem dX4_place_6 : decode cX4_place 6 = .ok (.invokestatic 70, 3) := by decide +kernel
theorem dX4_place_9 : decode cX4_place 9 = .ok (.aload_n 1, 1) := by decide +kernel
theorem dX4_place_10 : decode cX4_place 10 = .ok (.getfield 138, 3) := by decide +kernel
theorem dX4_place_13 : decode cX4_place 13 = .ok (.iload_n 2, 1) := by decide +kernel
theorem dX4_place_14 : decode cX4_place 14 = .ok (.invokestatic 52, 3) := by decide +kernel
theorem dX4_place_17 : decode cX4_place 17 = .ok (.sipush 138, 3) := by decide +kernel
theorem dX4_place_20 : decode cX4_place 20 = .ok (.imul, 1) := by decide +kernel
theorem dX4_place_21 : decode cX4_place 21 = .ok (.istore 4, 2) := by decide +kernel
theorem dX4_place_23 : decode cX4_place 23 = .ok (.iload_n 3, 1) := by decide +kernel
theorem dX4_place_24 : decode cX4_place 24 = .ok (.aload_n 1, 1) := by decide +kernel
theorem dX4_place_25 : decode cX4_place 25 = .ok (.getfield 95, 3) := by decide +kernel
theorem dX4_place_28 : decode cX4_place 28 = .ok (.iload_n 2, 1) := by decide +kernel
theorem dX4_place_29 : decode cX4_place 29 = .ok (.invokestatic 52, 3) := by decide +kernel
theorem dX4_place_32 : decode cX4_place 32 = .ok (.iadd, 1) := by decide +kernel
theorem dX4_place_33 : decode cX4_place 33 = .ok (.istore 5, 2) := by decide +kernel
theorem dX4_place_35 : decode cX4_place 35 = .ok (.iload_n 3, 1) := by decide +kernel
theorem dX4_place_36 : decode cX4_place 36 = .ok (.istore 6, 2) := by decide +kernel
theorem dX4_place_38 : decode cX4_place 38 = .ok (.iload 6, 2) := by decide +kernel
theorem dX4_place_40 : decode cX4_place 40 = .ok (.iload 5, 2) := by decide +kernel
theorem dX4_place_42 : decode cX4_place 42 = .ok (.if_icmp .ge 42, 3) := by decide +kernel
theorem dX4_place_45 : decode cX4_place 45 = .ok (.aload_n 0, 1) := by decide +kernel
theorem dX4_place_46 : decode cX4_place 46 = .ok (.getfield 30, 3) := by decide +kernel
theorem dX4_place_49 : decode cX4_place 49 = .ok (.iload 4, 2) := by decide +kernel
theorem dX4_place_51 : decode cX4_place 51 = .ok (.iload 6, 2) := by decide +kernel
theorem dX4_place_53 : decode cX4_place 53 = .ok (.iadd, 1) := by decide +kernel
theorem dX4_place_54 : decode cX4_place 54 = .ok (.aload_n 0, 1) := by decide +kernel
theorem dX4_place_55 : decode cX4_place 55 = .ok (.getfield 30, 3) := by decide +kernel
theorem dX4_place_58 : decode cX4_place 58 = .ok (.iload 4, 2) := by decide +kernel
theorem dX4_place_60 : decode cX4_place 60 = .ok (.iload 6, 2) := by decide +kernel
theorem dX4_place_62 : decode cX4_place 62 = .ok (.iadd, 1) := by decide +kernel
theorem dX4_place_63 : decode cX4_place 63 = .ok (.invokestatic 52, 3) := by decide +kernel
theorem dX4_place_66 : decode cX4_place 66 = .ok (.aload_n 1, 1) := by decide +kernel
theorem dX4_place_67 : decode cX4_place 67 = .ok (.getfield 144, 3) := by decide +kernel
theorem dX4_place_70 : decode cX4_place 70 = .ok (.iload_n 2, 1) := by decide +kernel
theorem dX4_place_71 : decode cX4_place 71 = .ok (.invokestatic 52, 3) := by decide +kernel
theorem dX4_place_74 : decode cX4_place 74 = .ok (.iadd, 1) := by decide +kernel
theorem dX4_place_75 : decode cX4_place 75 = .ok (.invokestatic 70, 3) := by decide +kernel
theorem dX4_place_78 : decode cX4_place 78 = .ok (.iinc 6 1, 3) := by decide +kernel
theorem dX4_place_81 : decode cX4_place 81 = .ok (.goto (-43), 3) := by decide +kernel
theorem dX4_place_84 : decode cX4_place 84 = .ok (.aload_n 0, 1) := by decide +kernel
theorem dX4_place_85 : decode cX4_place 85 = .ok (.aload_n 0, 1) := by decide +kernel
theorem dX4_place_86 : decode cX4_place 86 = .ok (.getfield 120, 3) := by decide +kernel
theorem dX4_place_89 : decode cX4_place 89 = .ok (.iload 5, 2) := by decide +kernel
theorem dX4_place_91 : decode cX4_place 91 = .ok (.invokestatic 98, 3) := by decide +kernel
theorem dX4_place_94 : decode cX4_place 94 = .ok (.putfield 120, 3) := by decide +kernel
theorem dX4_place_97 : decode cX4_place 97 = .ok (.return_, 1) := by decide +kernel
theorem dX5_init_0 : decode cX5_init 0 = .ok (.aload_n 0, 1) := by decide +kernel
theorem dX5_init_1 : decode cX5_init 1 = .ok (.invokespecial 3, 3) := by decide +kernel
theorem dX5_init_4 : decode cX5_init 4 = .ok (.aload_n 0, 1) := by decide +kernel
theorem dX5_init_5 : decode cX5_init 5 = .ok (.bipush 12, 2) := by decide +kernel
theorem dX5_init_7 : decode cX5_init 7 = .ok (.newarray .int, 2) := by decide +kernel
theorem dX5_init_9 : decode cX5_init 9 = .ok (.putfield 9, 3) := by decide +kernel
theorem dX5_init_12 : decode cX5_init 12 = .ok (.aload_n 0, 1) := by decide +kernel
theorem dX5_init_13 : decode cX5_init 13 = .ok (.bipush 12, 2) := by decide +kernel
theorem dX5_init_15 : decode cX5_init 15 = .ok (.newarray .int, 2) := by decide +kernel
theorem dX5_init_17 : decode cX5_init 17 = .ok (.putfield 15, 3) := by decide +kernel
theorem dX5_init_20 : decode cX5_init 20 = .ok (.aload_n 0, 1) := by decide +kernel
theorem dX5_init_21 : decode cX5_init 21 = .ok (.bipush 12, 2) := by decide +kernel
theorem dX5_init_23 : decode cX5_init 23 = .ok (.newarray .int, 2) := by decide +kernel
theorem dX5_init_25 : decode cX5_init 25 = .ok (.putfield 18, 3) := by decide +kernel
theorem dX5_init_28 : decode cX5_init 28 = .ok (.aload_n 0, 1) := by decide +kernel
theorem dX5_init_29 : decode cX5_init 29 = .ok (.bipush 12, 2) := by decide +kernel
theorem dX5_init_31 : decode cX5_init 31 = .ok (.newarray .int, 2) := by decide +kernel
theorem dX5_init_33 : decode cX5_init 33 = .ok (.putfield 21, 3) := by decide +kernel
theorem dX5_init_36 : decode cX5_init 36 = .ok (.aload_n 0, 1) := by decide +kernel
theorem dX5_init_37 : decode cX5_init 37 = .ok (.bipush 12, 2) := by decide +kernel
theorem dX5_init_39 : decode cX5_init 39 = .ok (.newarray .int, 2) := by decide +kernel
theorem dX5_init_41 : decode cX5_init 41 = .ok (.putfield 24, 3) := by decide +kernel
theorem dX5_init_44 : decode cX5_init 44 = .ok (.aload_n 0, 1) := by decide +kernel
theorem dX5_init_45 : decode cX5_init 45 = .ok (.bipush 12, 2) := by decide +kernel
theorem dX5_init_47 : decode cX5_init 47 = .ok (.newarray .int, 2) := by decide +kernel
theorem dX5_init_49 : decode cX5_init 49 = .ok (.putfield 27, 3) := by decide +kernel
theorem dX5_init_52 : decode cX5_init 52 = .ok (.aload_n 0, 1) := by decide +kernel
theorem dX5_init_53 : decode cX5_init 53 = .ok (.iconst 3, 1) := by decide +kernel
theorem dX5_init_54 : decode cX5_init 54 = .ok (.newarray .int, 2) := by decide +kernel
theorem dX5_init_56 : decode cX5_init 56 = .ok (.putfield 30, 3) := by decide +kernel
theorem dX5_init_59 : decode cX5_init 59 = .ok (.aload_n 0, 1) := by decide +kernel
theorem dX5_init_60 : decode cX5_init 60 = .ok (.getfield 30, 3) := by decide +kernel
theorem dX5_init_63 : decode cX5_init 63 = .ok (.bipush 10, 2) := by decide +kernel
theorem dX5_init_65 : decode cX5_init 65 = .ok (.invokestatic 33, 3) := by decide +kernel
theorem dX5_init_68 : decode cX5_init 68 = .ok (.return_, 1) := by decide +kernel
theorem dX5_copyFrom_0 : decode cX5_copyFrom 0 = .ok (.aload_n 1, 1) := by decide +kernel
theorem dX5_copyFrom_1 : decode cX5_copyFrom 1 = .ok (.getfield 9, 3) := by decide +kernel
theorem dX5_copyFrom_4 : decode cX5_copyFrom 4 = .ok (.aload_n 0, 1) := by decide +kernel
theorem dX5_copyFrom_5 : decode cX5_copyFrom 5 = .ok (.getfield 9, 3) := by decide +kernel
theorem dX5_copyFrom_8 : decode cX5_copyFrom 8 = .ok (.invokestatic 37, 3) := by decide +kernel
theorem dX5_copyFrom_11 : decode cX5_copyFrom 11 = .ok (.aload_n 1, 1) := by decide +kernel
theorem dX5_copyFrom_12 : decode cX5_copyFrom 12 = .ok (.getfield 15, 3) := by decide +kernel
theorem dX5_copyFrom_15 : decode cX5_copyFrom 15 = .ok (.aload_n 0, 1) := by decide +kernel
theorem dX5_copyFrom_16 : decode cX5_copyFrom 16 = .ok (.getfield 15, 3) := by decide +kernel
theorem dX5_copyFrom_19 : decode cX5_copyFrom 19 = .ok (.invokestatic 37, 3) := by decide +kernel
theorem dX5_copyFrom_22 : decode cX5_copyFrom 22 = .ok (.aload_n 1, 1) := by decide +kernel
theorem dX5_copyFrom_23 : decode cX5_copyFrom 23 = .ok (.getfield 18, 3) := by decide +kernel
theorem dX5_copyFrom_26 : decode cX5_copyFrom 26 = .ok (.aload_n 0, 1) := by decide +kernel
theorem dX5_copyFrom_27 : decode cX5_copyFrom 27 = .ok (.getfield 18, 3) := by decide +kernel
theorem dX5_copyFrom_30 : decode cX5_copyFrom 30 = .ok (.invokestatic 37, 3) := by decide +kernel
theorem dX5_copyFrom_33 : decode cX5_copyFrom 33 = .ok (.aload_n 1, 1) := by decide +kernel
theorem dX5_copyFrom_34 : decode cX5_copyFrom 34 = .ok (.getfield 21, 3) := by decide +kernel
theorem dX5_copyFrom_37 : decode cX5_copyFrom 37 = .ok (.aload_n 0, 1) := by decide +kernel
theorem dX5_copyFrom_38 : decode cX5_copyFrom 38 = .ok (.getfield 21, 3) := by decide +kernel
theorem dX5_copyFrom_41 : decode cX5_copyFrom 41 = .ok (.invokestatic 37, 3) := by decide +kernel
theorem dX5_copyFrom_44 : decode cX5_copyFrom 44 = .ok (.aload_n 1, 1) := by decide +kernel
theorem dX5_copyFrom_45 : decode cX5_copyFrom 45 = .ok (.getfield 24, 3) := by decide +kernel
theorem dX5_copyFrom_48 : decode cX5_copyFrom 48 = .ok (.aload_n 0, 1) := by decide +kernel
theorem dX5_copyFrom_49 : decode cX5_copyFrom 49 = .ok (.getfield 24, 3) := by decide +kernel
theorem dX5_copyFrom_52 : decode cX5_copyFrom 52 = .ok (.invokestatic 37, 3) := by decide +kernel
theorem dX5_copyFrom_55 : decode cX5_copyFrom 55 = .ok (.aload_n 1, 1) := by decide +kernel
theorem dX5_copyFrom_56 : decode cX5_copyFrom 56 = .ok (.getfield 27, 3) := by decide +kernel
theorem dX5_copyFrom_59 : decode cX5_copyFrom 59 = .ok (.aload_n 0, 1) := by decide +kernel
theorem dX5_copyFrom_60 : decode cX5_copyFrom 60 = .ok (.getfield 27, 3) := by decide +kernel
theorem dX5_copyFrom_63 : decode cX5_copyFrom 63 = .ok (.invokestatic 37, 3) := by decide +kernel
theorem dX5_copyFrom_66 : decode cX5_copyFrom 66 = .ok (.aload_n 1, 1) := by decide +kernel
theorem dX5_copyFrom_67 : decode cX5_copyFrom 67 = .ok (.getfield 30, 3) := by decide +kernel
theorem dX5_copyFrom_70 : decode cX5_copyFrom 70 = .ok (.aload_n 0, 1) := by decide +kernel
theorem dX5_copyFrom_71 : decode cX5_copyFrom 71 = .ok (.getfield 30, 3) := by decide +kernel
theorem dX5_copyFrom_74 : decode cX5_copyFrom 74 = .ok (.invokestatic 37, 3) := by decide +kernel
theorem dX5_copyFrom_77 : decode cX5_copyFrom 77 = .ok (.aload_n 0, 1) := by decide +kernel
theorem dX5_copyFrom_78 : decode cX5_copyFrom 78 = .ok (.aload_n 1, 1) := by decide +kernel
theorem dX5_copyFrom_79 : decode cX5_copyFrom 79 = .ok (.getfield 41, 3) := by decide +kernel
theorem dX5_copyFrom_82 : decode cX5_copyFrom 82 = .ok (.putfield 41, 3) := by decide +kernel
theorem dX5_copyFrom_85 : decode cX5_copyFrom 85 = .ok (.aload_n 0, 1) := by decide +kernel
theorem dX5_copyFrom_86 : decode cX5_copyFrom 86 = .ok (.aload_n 1, 1) := by decide +kernel
theorem dX5_copyFrom_87 : decode cX5_copyFrom 87 = .ok (.getfield 45, 3) := by decide +kernel
theorem dX5_copyFrom_90 : decode cX5_copyFrom 90 = .ok (.putfield 45, 3) := by decide +kernel
theorem dX5_copyFrom_93 : decode cX5_copyFrom 93 = .ok (.return_, 1) := by decide +kernel
theorem dX5_faultOfTask_0 : decode cX5_faultOfTask 0 = .ok (.iload_n 1, 1) := by decide +kernel
theorem dX5_faultOfTask_1 : decode cX5_faultOfTask 1 = .ok (.iconst 0, 1) := by decide +kernel
theorem dX5_faultOfTask_2 : decode cX5_faultOfTask 2 = .ok (.aload_n 0, 1) := by decide +kernel
theorem dX5_faultOfTask_3 : decode cX5_faultOfTask 3 = .ok (.getfield 41, 3) := by decide +kernel
theorem dX5_faultOfTask_6 : decode cX5_faultOfTask 6 = .ok (.iconst 1, 1) := by decide +kernel
theorem dX5_faultOfTask_7 : decode cX5_faultOfTask 7 = .ok (.isub, 1) := by decide +kernel
theorem dX5_faultOfTask_8 : decode cX5_faultOfTask 8 = .ok (.invokestatic 49, 3) := by decide +kernel
theorem dX5_faultOfTask_11 : decode cX5_faultOfTask 11 = .ok (.ifCond .eq 8, 3) := by decide +kernel
theorem dX5_faultOfTask_14 : decode cX5_faultOfTask 14 = .ok (.bipush 46, 2) := by decide +kernel
theorem dX5_faultOfTask_16 : decode cX5_faultOfTask 16 = .ok (.goto 5, 3) := by decide +kernel
theorem dX5_faultOfTask_19 : decode cX5_faultOfTask 19 = .ok (.bipush 105, 2) := by decide +kernel
theorem dX5_faultOfTask_21 : decode cX5_faultOfTask 21 = .ok (.ireturn, 1) := by decide +kernel
theorem dX5_faultOfPair_0 : decode cX5_faultOfPair 0 = .ok (.aload_n 0, 1) := by decide +kernel
theorem dX5_faultOfPair_1 : decode cX5_faultOfPair 1 = .ok (.iload_n 1, 1) := by decide +kernel
theorem dX5_faultOfPair_2 : decode cX5_faultOfPair 2 = .ok (.invokevirtual 53, 3) := by decide +kernel
theorem dX5_faultOfPair_5 : decode cX5_faultOfPair 5 = .ok (.bipush 46, 2) := by decide +kernel
theorem dX5_faultOfPair_7 : decode cX5_faultOfPair 7 = .ok (.if_icmp .ne 11, 3) := by decide +kernel
theorem dX5_faultOfPair_10 : decode cX5_faultOfPair 10 = .ok (.aload_n 0, 1) := by decide +kernel
theorem dX5_faultOfPair_11 : decode cX5_faultOfPair 11 = .ok (.iload_n 2, 1) := by decide +kernel
theorem dX5_faultOfPair_12 : decode cX5_faultOfPair 12 = .ok (.invokevirtual 53, 3) := by decide +kernel
theorem dX5_faultOfPair_15 : decode cX5_faultOfPair 15 = .ok (.goto 5, 3) := by decide +kernel
theorem dX5_faultOfPair_18 : decode cX5_faultOfPair 18 = .ok (.bipush 105, 2) := by decide +kernel
theorem dX5_faultOfPair_20 : decode cX5_faultOfPair 20 = .ok (.ireturn, 1) := by decide +kernel
theorem dX5_faultOfAdding_0 : decode cX5_faultOfAdding 0 = .ok (.iload_n 1, 1) := by decide +kernel
theorem dX5_faultOfAdding_1 : decode cX5_faultOfAdding 1 = .ok (.iconst 1, 1) := by decide +kernel
theorem dX5_faultOfAdding_2 : decode cX5_faultOfAdding 2 = .ok (.bipush 9, 2) := by decide +kernel
theorem dX5_faultOfAdding_4 : decode cX5_faultOfAdding 4 = .ok (.invokestatic 49, 3) := by decide +kernel
theorem dX5_faultOfAdding_7 : decode cX5_faultOfAdding 7 = .ok (.ifCond .eq 36, 3) := by decide +kernel
theorem dX5_faultOfAdding_10 : decode cX5_faultOfAdding 10 = .ok (.iload_n 2, 1) := by decide +kernel
theorem dX5_faultOfAdding_11 : decode cX5_faultOfAdding 11 = .ok (.iconst 0, 1) := by decide +kernel
theorem dX5_faultOfAdding_12 : decode cX5_faultOfAdding 12 = .ok (.iconst 2, 1) := by decide +kernel
theorem dX5_faultOfAdding_13 : decode cX5_faultOfAdding 13 = .ok (.invokestatic 49, 3) := by decide +kernel
theorem dX5_faultOfAdding_16 : decode cX5_faultOfAdding 16 = .ok (.ifCond .eq 27, 3) := by decide +kernel
theorem dX5_faultOfAdding_19 : decode cX5_faultOfAdding 19 = .ok (.iload_n 3, 1) := by decide +kernel
theorem dX5_faultOfAdding_20 : decode cX5_faultOfAdding 20 = .ok (.iconst 1, 1) := by decide +kernel
theorem dX5_faultOfAdding_21 : decode cX5_faultOfAdding 21 = .ok (.iconst 5, 1) := by decide +kernel
theorem dX5_faultOfAdding_22 : decode cX5_faultOfAdding 22 = .ok (.invokestatic 49, 3) := by decide +kernel
theorem dX5_faultOfAdding_25 : decode cX5_faultOfAdding 25 = .ok (.ifCond .eq 18, 3) := by decide +kernel
theorem dX5_faultOfAdding_28 : decode cX5_faultOfAdding 28 = .ok (.iload 4, 2) := by decide +kernel
theorem dX5_faultOfAdding_30 : decode cX5_faultOfAdding 30 = .ok (.iconst 0, 1) := by decide +kernel
theorem dX5_faultOfAdding_31 : decode cX5_faultOfAdding 31 = .ok (.bipush 30, 2) := by decide +kernel
theorem dX5_faultOfAdding_33 : decode cX5_faultOfAdding 33 = .ok (.invokestatic 49, 3) := by decide +kernel
theorem dX5_faultOfAdding_36 : decode cX5_faultOfAdding 36 = .ok (.ifCond .eq 7, 3) := by decide +kernel
theorem dX5_faultOfAdding_39 : decode cX5_faultOfAdding 39 = .ok (.iconst 1, 1) := by decide +kernel
theorem dX5_faultOfAdding_40 : decode cX5_faultOfAdding 40 = .ok (.goto 4, 3) := by decide +kernel
theorem dX5_faultOfAdding_43 : decode cX5_faultOfAdding 43 = .ok (.iconst 0, 1) := by decide +kernel
theorem dX5_faultOfAdding_44 : decode cX5_faultOfAdding 44 = .ok (.istore 5, 2) := by decide +kernel
theorem dX5_faultOfAdding_46 : decode cX5_faultOfAdding 46 = .ok (.iload 5, 2) := by decide +kernel
theorem dX5_faultOfAdding_48 : decode cX5_faultOfAdding 48 = .ok (.ifCond .ne 6, 3) := by decide +kernel
theorem dX5_faultOfAdding_51 : decode cX5_faultOfAdding 51 = .ok (.bipush 97, 2) := by decide +kernel
theorem dX5_faultOfAdding_53 : decode cX5_faultOfAdding 53 = .ok (.ireturn, 1) := by decide +kernel
theorem dX5_faultOfAdding_54 : decode cX5_faultOfAdding 54 = .ok (.aload_n 0, 1) := by decide +kernel
theorem dX5_faultOfAdding_55 : decode cX5_faultOfAdding 55 = .ok (.getfield 41, 3) := by decide +kernel
theorem dX5_faultOfAdding_58 : decode cX5_faultOfAdding 58 = .ok (.bipush 12, 2) := by decide +kernel
theorem dX5_faultOfAdding_60 : decode cX5_faultOfAdding 60 = .ok (.if_icmp .ge 8, 3) := by decide +kernel
theorem dX5_faultOfAdding_63 : decode cX5_faultOfAdding 63 = .ok (.bipush 46, 2) := by decide +kernel
theorem dX5_faultOfAdding_65 : decode cX5_faultOfAdding 65 = .ok (.goto 5, 3) := by decide +kernel
theorem dX5_faultOfAdding_68 : decode cX5_faultOfAdding 68 = .ok (.bipush 115, 2) := by decide +kernel
theorem dX5_faultOfAdding_70 : decode cX5_faultOfAdding 70 = .ok (.ireturn, 1) := by decide +kernel
theorem dX5_faultOfLinking_0 : decode cX5_faultOfLinking 0 = .ok (.aload_n 0, 1) := by decide +kernel
theorem dX5_faultOfLinking_1 : decode cX5_faultOfLinking 1 = .ok (.iload_n 1, 1) := by decide +kernel
theorem dX5_faultOfLinking_2 : decode cX5_faultOfLinking 2 = .ok (.iload_n 2, 1) := by decide +kernel
theorem dX5_faultOfLinking_3 : decode cX5_faultOfLinking 3 = .ok (.invokevirtual 57, 3) := by decide +kernel
theorem dX5_faultOfLinking_6 : decode cX5_faultOfLinking 6 = .ok (.bipush 46, 2) := by decide +kernel
theorem dX5_faultOfLinking_8 : decode cX5_faultOfLinking 8 = .ok (.if_icmp .eq 6, 3) := by decide +kernel
theorem dX5_faultOfLinking_11 : decode cX5_faultOfLinking 11 = .ok (.bipush 105, 2) := by decide +kernel
theorem dX5_faultOfLinking_13 : decode cX5_faultOfLinking 13 = .ok (.ireturn, 1) := by decide +kernel
theorem dX5_faultOfLinking_14 : decode cX5_faultOfLinking 14 = .ok (.iload_n 1, 1) := by decide +kernel
theorem dX5_faultOfLinking_15 : decode cX5_faultOfLinking 15 = .ok (.iload_n 2, 1) := by decide +kernel
theorem dX5_faultOfLinking_16 : decode cX5_faultOfLinking 16 = .ok (.if_icmp .ne 6, 3) := by decide +kernel
theorem dX5_faultOfLinking_19 : decode cX5_faultOfLinking 19 = .ok (.bipush 97, 2) := by decide +kernel
theorem dX5_faultOfLinking_21 : decode cX5_faultOfLinking 21 = .ok (.ireturn, 1) := by decide +kernel
theorem dX5_faultOfLinking_22 : decode cX5_faultOfLinking 22 = .ok (.aload_n 0, 1) := by decide +kernel
theorem dX5_faultOfLinking_23 : decode cX5_faultOfLinking 23 = .ok (.iload_n 2, 1) := by decide +kernel
theorem dX5_faultOfLinking_24 : decode cX5_faultOfLinking 24 = .ok (.iload_n 1, 1) := by decide +kernel
theorem dX5_faultOfLinking_25 : decode cX5_faultOfLinking 25 = .ok (.invokevirtual 61, 3) := by decide +kernel
theorem dX5_faultOfLinking_28 : decode cX5_faultOfLinking 28 = .ok (.ifCond .eq 8, 3) := by decide +kernel
theorem dX5_faultOfLinking_31 : decode cX5_faultOfLinking 31 = .ok (.bipush 117, 2) := by decide +kernel
theorem dX5_faultOfLinking_33 : decode cX5_faultOfLinking 33 = .ok (.goto 5, 3) := by decide +kernel
theorem dX5_faultOfLinking_36 : decode cX5_faultOfLinking 36 = .ok (.bipush 46, 2) := by decide +kernel
theorem dX5_faultOfLinking_38 : decode cX5_faultOfLinking 38 = .ok (.ireturn, 1) := by decide +kernel
theorem dX5_faultOfDuration_0 : decode cX5_faultOfDuration 0 = .ok (.aload_n 0, 1) := by decide +kernel
theorem dX5_faultOfDuration_1 : decode cX5_faultOfDuration 1 = .ok (.iload_n 1, 1) := by decide +kernel
theorem dX5_faultOfDuration_2 : decode cX5_faultOfDuration 2 = .ok (.invokevirtual 53, 3) := by decide +kernel
theorem dX5_faultOfDuration_5 : decode cX5_faultOfDuration 5 = .ok (.bipush 46, 2) := by decide +kernel
theorem dX5_faultOfDuration_7 : decode cX5_faultOfDuration 7 = .ok (.if_icmp .eq 6, 3) := by decide +kernel
theorem dX5_faultOfDuration_10 : decode cX5_faultOfDuration 10 = .ok (.bipush 105, 2) := by decide +kernel
theorem dX5_faultOfDuration_12 : decode cX5_faultOfDuration 12 = .ok (.ireturn, 1) := by decide +kernel
theorem dX5_faultOfDuration_13 : decode cX5_faultOfDuration 13 = .ok (.iload_n 2, 1) := by decide +kernel
theorem dX5_faultOfDuration_14 : decode cX5_faultOfDuration 14 = .ok (.iconst 1, 1) := by decide +kernel
theorem dX5_faultOfDuration_15 : decode cX5_faultOfDuration 15 = .ok (.bipush 9, 2) := by decide +kernel
theorem dX5_faultOfDuration_17 : decode cX5_faultOfDuration 17 = .ok (.invokestatic 49, 3) := by decide +kernel
theorem dX5_faultOfDuration_20 : decode cX5_faultOfDuration 20 = .ok (.ifCond .eq 8, 3) := by decide +kernel
theorem dX5_faultOfDuration_23 : decode cX5_faultOfDuration 23 = .ok (.bipush 46, 2) := by decide +kernel
theorem dX5_faultOfDuration_25 : decode cX5_faultOfDuration 25 = .ok (.goto 5, 3) := by decide +kernel
theorem dX5_faultOfDuration_28 : decode cX5_faultOfDuration 28 = .ok (.bipush 97, 2) := by decide +kernel
theorem dX5_faultOfDuration_30 : decode cX5_faultOfDuration 30 = .ok (.ireturn, 1) := by decide +kernel
theorem dX5_faultOfRelease_0 : decode cX5_faultOfRelease 0 = .ok (.aload_n 0, 1) := by decide +kernel
theorem dX5_faultOfRelease_1 : decode cX5_faultOfRelease 1 = .ok (.iload_n 1, 1) := by decide +kernel
theorem dX5_faultOfRelease_2 : decode cX5_faultOfRelease 2 = .ok (.invokevirtual 53, 3) := by decide +kernel
theorem dX5_faultOfRelease_5 : decode cX5_faultOfRelease 5 = .ok (.bipush 46, 2) := by decide +kernel
theorem dX5_faultOfRelease_7 : decode cX5_faultOfRelease 7 = .ok (.if_icmp .eq 6, 3) := by decide +kernel
theorem dX5_faultOfRelease_10 : decode cX5_faultOfRelease 10 = .ok (.bipush 105, 2) := by decide +kernel
theorem dX5_faultOfRelease_12 : decode cX5_faultOfRelease 12 = .ok (.ireturn, 1) := by decide +kernel
theorem dX5_faultOfRelease_13 : decode cX5_faultOfRelease 13 = .ok (.iload_n 2, 1) := by decide +kernel
theorem dX5_faultOfRelease_14 : decode cX5_faultOfRelease 14 = .ok (.iconst 0, 1) := by decide +kernel
theorem dX5_faultOfRelease_15 : decode cX5_faultOfRelease 15 = .ok (.bipush 30, 2) := by decide +kernel
theorem dX5_faultOfRelease_17 : decode cX5_faultOfRelease 17 = .ok (.invokestatic 49, 3) := by decide +kernel
theorem dX5_faultOfRelease_20 : decode cX5_faultOfRelease 20 = .ok (.ifCond .eq 8, 3) := by decide +kernel
theorem dX5_faultOfRelease_23 : decode cX5_faultOfRelease 23 = .ok (.bipush 46, 2) := by decide +kernel
theorem dX5_faultOfRelease_25 : decode cX5_faultOfRelease 25 = .ok (.goto 5, 3) := by decide +kernel
theorem dX5_faultOfRelease_28 : decode cX5_faultOfRelease 28 = .ok (.bipush 97, 2) := by decide +kernel
theorem dX5_faultOfRelease_30 : decode cX5_faultOfRelease 30 = .ok (.ireturn, 1) := by decide +kernel
theorem dX5_faultOfLimit_0 : decode cX5_faultOfLimit 0 = .ok (.iload_n 1, 1) := by decide +kernel
theorem dX5_faultOfLimit_1 : decode cX5_faultOfLimit 1 = .ok (.iconst 0, 1) := by decide +kernel
theorem dX5_faultOfLimit_2 : decode cX5_faultOfLimit 2 = .ok (.iconst 2, 1) := by decide +kernel
theorem dX5_faultOfLimit_3 : decode cX5_faultOfLimit 3 = .ok (.invokestatic 49, 3) := by decide +kernel
theorem dX5_faultOfLimit_6 : decode cX5_faultOfLimit 6 = .ok (.ifCond .eq 17, 3) := by decide +kernel
theorem dX5_faultOfLimit_9 : decode cX5_faultOfLimit 9 = .ok (.iload_n 2, 1) := by decide +kernel
theorem dX5_faultOfLimit_10 : decode cX5_faultOfLimit 10 = .ok (.iconst 5, 1) := by decide +kernel
theorem dX5_faultOfLimit_11 : decode cX5_faultOfLimit 11 = .ok (.bipush 20, 2) := by decide +kernel
theorem dX5_faultOfLimit_13 : decode cX5_faultOfLimit 13 = .ok (.invokestatic 49, 3) := by decide +kernel
theorem dX5_faultOfLimit_16 : decode cX5_faultOfLimit 16 = .ok (.ifCond .eq 7, 3) := by decide +kernel
theorem dX5_faultOfLimit_19 : decode cX5_faultOfLimit 19 = .ok (.iconst 1, 1) := by decide +kernel
theorem dX5_faultOfLimit_20 : decode cX5_faultOfLimit 20 = .ok (.goto 4, 3) := by decide +kernel
theorem dX5_faultOfLimit_23 : decode cX5_faultOfLimit 23 = .ok (.iconst 0, 1) := by decide +kernel
theorem dX5_faultOfLimit_24 : decode cX5_faultOfLimit 24 = .ok (.istore_n 3, 1) := by decide +kernel
theorem dX5_faultOfLimit_25 : decode cX5_faultOfLimit 25 = .ok (.iload_n 3, 1) := by decide +kernel
theorem dX5_faultOfLimit_26 : decode cX5_faultOfLimit 26 = .ok (.ifCond .eq 8, 3) := by decide +kernel
theorem dX5_faultOfLimit_29 : decode cX5_faultOfLimit 29 = .ok (.bipush 46, 2) := by decide +kernel
theorem dX5_faultOfLimit_31 : decode cX5_faultOfLimit 31 = .ok (.goto 5, 3) := by decide +kernel
theorem dX5_faultOfLimit_34 : decode cX5_faultOfLimit 34 = .ok (.bipush 97, 2) := by decide +kernel
theorem dX5_faultOfLimit_36 : decode cX5_faultOfLimit 36 = .ok (.ireturn, 1) := by decide +kernel
theorem dX5_append_0 : decode cX5_append 0 = .ok (.aload_n 0, 1) := by decide +kernel
theorem dX5_append_1 : decode cX5_append 1 = .ok (.getfield 41, 3) := by decide +kernel
theorem dX5_append_4 : decode cX5_append 4 = .ok (.istore 5, 2) := by decide +kernel
theorem dX5_append_6 : decode cX5_append 6 = .ok (.aload_n 0, 1) := by decide +kernel
theorem dX5_append_7 : decode cX5_append 7 = .ok (.getfield 9, 3) := by decide +kernel
theorem dX5_append_10 : decode cX5_append 10 = .ok (.iload 5, 2) := by decide +kernel
theorem dX5_append_12 : decode cX5_append 12 = .ok (.iload_n 1, 1) := by decide +kernel
theorem dX5_append_13 : decode cX5_append 13 = .ok (.invokestatic 65, 3) := by decide +kernel
theorem dX5_append_16 : decode cX5_append 16 = .ok (.aload_n 0, 1) := by decide +kernel
theorem dX5_append_17 : decode cX5_append 17 = .ok (.getfield 15, 3) := by decide +kernel
theorem dX5_append_20 : decode cX5_append 20 = .ok (.iload 5, 2) := by decide +kernel
theorem dX5_append_22 : decode cX5_append 22 = .ok (.iload_n 2, 1) := by decide +kernel
theorem dX5_append_23 : decode cX5_append 23 = .ok (.invokestatic 65, 3) := by decide +kernel
theorem dX5_append_26 : decode cX5_append 26 = .ok (.aload_n 0, 1) := by decide +kernel
theorem dX5_append_27 : decode cX5_append 27 = .ok (.getfield 18, 3) := by decide +kernel
theorem dX5_append_30 : decode cX5_append 30 = .ok (.iload 5, 2) := by decide +kernel
theorem dX5_append_32 : decode cX5_append 32 = .ok (.iload_n 3, 1) := by decide +kernel
theorem dX5_append_33 : decode cX5_append 33 = .ok (.invokestatic 65, 3) := by decide +kernel
theorem dX5_append_36 : decode cX5_append 36 = .ok (.aload_n 0, 1) := by decide +kernel
theorem dX5_append_37 : decode cX5_append 37 = .ok (.getfield 21, 3) := by decide +kernel
theorem dX5_append_40 : decode cX5_append 40 = .ok (.iload 5, 2) := by decide +kernel
theorem dX5_append_42 : decode cX5_append 42 = .ok (.iload 4, 2) := by decide +kernel
theorem dX5_append_44 : decode cX5_append 44 = .ok (.invokestatic 65, 3) := by decide +kernel
theorem dX5_append_47 : decode cX5_append 47 = .ok (.aload_n 0, 1) := by decide +kernel
theorem dX5_append_48 : decode cX5_append 48 = .ok (.getfield 24, 3) := by decide +kernel
theorem dX5_append_51 : decode cX5_append 51 = .ok (.iload 5, 2) := by decide +kernel
theorem dX5_append_53 : decode cX5_append 53 = .ok (.iconst 0, 1) := by decide +kernel
theorem dX5_append_54 : decode cX5_append 54 = .ok (.invokestatic 65, 3) := by decide +kernel
theorem dX5_append_57 : decode cX5_append 57 = .ok (.aload_n 0, 1) := by decide +kernel
theorem dX5_append_58 : decode cX5_append 58 = .ok (.getfield 27, 3) := by decide +kernel
theorem dX5_append_61 : decode cX5_append 61 = .ok (.iload 5, 2) := by decide +kernel
theorem dX5_append_63 : decode cX5_append 63 = .ok (.iconst (-1), 1) := by decide +kernel
theorem dX5_append_64 : decode cX5_append 64 = .ok (.invokestatic 65, 3) := by decide +kernel
theorem dX5_append_67 : decode cX5_append 67 = .ok (.aload_n 0, 1) := by decide +kernel
theorem dX5_append_68 : decode cX5_append 68 = .ok (.iload 5, 2) := by decide +kernel
theorem dX5_append_70 : decode cX5_append 70 = .ok (.iconst 1, 1) := by decide +kernel
theorem dX5_append_71 : decode cX5_append 71 = .ok (.iadd, 1) := by decide +kernel
theorem dX5_append_72 : decode cX5_append 72 = .ok (.putfield 41, 3) := by decide +kernel
theorem dX5_append_75 : decode cX5_append 75 = .ok (.iload 5, 2) := by decide +kernel
theorem dX5_append_77 : decode cX5_append 77 = .ok (.ireturn, 1) := by decide +kernel
theorem dX5_drop_0 : decode cX5_drop 0 = .ok (.aload_n 0, 1) := by decide +kernel
theorem dX5_drop_1 : decode cX5_drop 1 = .ok (.getfield 9, 3) := by decide +kernel
theorem dX5_drop_4 : decode cX5_drop 4 = .ok (.iload_n 1, 1) := by decide +kernel
theorem dX5_drop_5 : decode cX5_drop 5 = .ok (.invokestatic 69, 3) := by decide +kernel
theorem dX5_drop_8 : decode cX5_drop 8 = .ok (.aload_n 0, 1) := by decide +kernel
theorem dX5_drop_9 : decode cX5_drop 9 = .ok (.getfield 15, 3) := by decide +kernel
theorem dX5_drop_12 : decode cX5_drop 12 = .ok (.iload_n 1, 1) := by decide +kernel
theorem dX5_drop_13 : decode cX5_drop 13 = .ok (.invokestatic 69, 3) := by decide +kernel
theorem dX5_drop_16 : decode cX5_drop 16 = .ok (.aload_n 0, 1) := by decide +kernel
theorem dX5_drop_17 : decode cX5_drop 17 = .ok (.getfield 18, 3) := by decide +kernel
theorem dX5_drop_20 : decode cX5_drop 20 = .ok (.iload_n 1, 1) := by decide +kernel
theorem dX5_drop_21 : decode cX5_drop 21 = .ok (.invokestatic 69, 3) := by decide +kernel
theorem dX5_drop_24 : decode cX5_drop 24 = .ok (.aload_n 0, 1) := by decide +kernel
theorem dX5_drop_25 : decode cX5_drop 25 = .ok (.getfield 21, 3) := by decide +kernel
theorem dX5_drop_28 : decode cX5_drop 28 = .ok (.iload_n 1, 1) := by decide +kernel
theorem dX5_drop_29 : decode cX5_drop 29 = .ok (.invokestatic 69, 3) := by decide +kernel
theorem dX5_drop_32 : decode cX5_drop 32 = .ok (.aload_n 0, 1) := by decide +kernel
theorem dX5_drop_33 : decode cX5_drop 33 = .ok (.getfield 24, 3) := by decide +kernel
theorem dX5_drop_36 : decode cX5_drop 36 = .ok (.iload_n 1, 1) := by decide +kernel
theorem dX5_drop_37 : decode cX5_drop 37 = .ok (.invokestatic 69, 3) := by decide +kernel
theorem dX5_drop_40 : decode cX5_drop 40 = .ok (.aload_n 0, 1) := by decide +kernel
theorem dX5_drop_41 : decode cX5_drop 41 = .ok (.getfield 27, 3) := by decide +kernel
theorem dX5_drop_44 : decode cX5_drop 44 = .ok (.iload_n 1, 1) := by decide +kernel
theorem dX5_drop_45 : decode cX5_drop 45 = .ok (.invokestatic 69, 3) := by decide +kernel
theorem dX5_drop_48 : decode cX5_drop 48 = .ok (.aload_n 0, 1) := by decide +kernel
theorem dX5_drop_49 : decode cX5_drop 49 = .ok (.dup, 1) := by decide +kernel
theorem dX5_drop_50 : decode cX5_drop 50 = .ok (.getfield 41, 3) := by decide +kernel
theorem dX5_drop_53 : decode cX5_drop 53 = .ok (.iconst 1, 1) := by decide +kernel
theorem dX5_drop_54 : decode cX5_drop 54 = .ok (.isub, 1) := by decide +kernel
theorem dX5_drop_55 : decode cX5_drop 55 = .ok (.putfield 41, 3) := by decide +kernel
theorem dX5_drop_58 : decode cX5_drop 58 = .ok (.iconst 1, 1) := by decide +kernel
theorem dX5_drop_59 : decode cX5_drop 59 = .ok (.iload_n 1, 1) := by decide +kernel
theorem dX5_drop_60 : decode cX5_drop 60 = .ok (.ishl, 1) := by decide +kernel
theorem dX5_drop_61 : decode cX5_drop 61 = .ok (.iconst 1, 1) := by decide +kernel
theorem dX5_drop_62 : decode cX5_drop 62 = .ok (.isub, 1) := by decide +kernel
theorem dX5_drop_63 : decode cX5_drop 63 = .ok (.istore_n 2, 1) := by decide +kernel
theorem dX5_drop_64 : decode cX5_drop 64 = .ok (.iconst 0, 1) := by decide +kernel
theorem dX5_drop_65 : decode cX5_drop 65 = .ok (.istore_n 3, 1) := by decide +kernel
theorem dX5_drop_66 : decode cX5_drop 66 = .ok (.iload_n 3, 1) := by decide +kernel
theorem dX5_drop_67 : decode cX5_drop 67 = .ok (.aload_n 0, 1) := by decide +kernel
theorem dX5_drop_68 : decode cX5_drop 68 = .ok (.getfield 41, 3) := by decide +kernel
theorem dX5_drop_71 : decode cX5_drop 71 = .ok (.if_icmp .ge 40, 3) := by decide +kernel
theorem dX5_drop_74 : decode cX5_drop 74 = .ok (.aload_n 0, 1) := by decide +kernel
theorem dX5_drop_75 : decode cX5_drop 75 = .ok (.getfield 24, 3) := by decide +kernel
theorem dX5_drop_78 : decode cX5_drop 78 = .ok (.iload_n 3, 1) := by decide +kernel
theorem dX5_drop_79 : decode cX5_drop 79 = .ok (.invokestatic 72, 3) := by decide +kernel
theorem dX5_drop_82 : decode cX5_drop 82 = .ok (.istore 4, 2) := by decide +kernel
theorem dX5_drop_84 : decode cX5_drop 84 = .ok (.aload_n 0, 1) := by decide +kernel
theorem dX5_drop_85 : decode cX5_drop 85 = .ok (.getfield 24, 3) := by decide +kernel
theorem dX5_drop_88 : decode cX5_drop 88 = .ok (.iload_n 3, 1) := by decide +kernel
theorem dX5_drop_89 : decode cX5_drop 89 = .ok (.iload 4, 2) := by decide +kernel
theorem dX5_drop_91 : decode cX5_drop 91 = .ok (.iload_n 2, 1) := by decide +kernel
theorem dX5_drop_92 : decode cX5_drop 92 = .ok (.iand, 1) := by decide +kernel
theorem dX5_drop_93 : decode cX5_drop 93 = .ok (.iload 4, 2) := by decide +kernel
theorem dX5_drop_95 : decode cX5_drop 95 = .ok (.iconst 1, 1) := by decide +kernel
theorem dX5_drop_96 : decode cX5_drop 96 = .ok (.ishr, 1) := by decide +kernel
theorem dX5_drop_97 : decode cX5_drop 97 = .ok (.iload_n 2, 1) := by decide +kernel
theorem dX5_drop_98 : decode cX5_drop 98 = .ok (.iconst (-1), 1) := by decide +kernel
theorem dX5_drop_99 : decode cX5_drop 99 = .ok (.ixor, 1) := by decide +kernel
theorem dX5_drop_100 : decode cX5_drop 100 = .ok (.iand, 1) := by decide +kernel
theorem dX5_drop_101 : decode cX5_drop 101 = .ok (.ior, 1) := by decide +kernel
theorem dX5_drop_102 : decode cX5_drop 102 = .ok (.invokestatic 65, 3) := by decide +kernel
theorem dX5_drop_105 : decode cX5_drop 105 = .ok (.iinc 3 1, 3) := by decide +kernel
theorem dX5_drop_108 : decode cX5_drop 108 = .ok (.goto (-42), 3) := by decide +kernel
theorem dX5_drop_111 : decode cX5_drop 111 = .ok (.return_, 1) := by decide +kernel
theorem dX5_link_0 : decode cX5_link 0 = .ok (.aload_n 0, 1) := by decide +kernel
theorem dX5_link_1 : decode cX5_link 1 = .ok (.getfield 24, 3) := by decide +kernel
theorem dX5_link_4 : decode cX5_link 4 = .ok (.iload_n 1, 1) := by decide +kernel
theorem dX5_link_5 : decode cX5_link 5 = .ok (.aload_n 0, 1) := by decide +kernel
theorem dX5_link_6 : decode cX5_link 6 = .ok (.getfield 24, 3) := by decide +kernel
theorem dX5_link_9 : decode cX5_link 9 = .ok (.iload_n 1, 1) := by decide +kernel
theorem dX5_link_10 : decode cX5_link 10 = .ok (.invokestatic 72, 3) := by decide +kernel
theorem dX5_link_13 : decode cX5_link 13 = .ok (.iconst 1, 1) := by decide +kernel
theorem dX5_link_14 : decode cX5_link 14 = .ok (.iload_n 2, 1) := by decide +kernel
theorem dX5_link_15 : decode cX5_link 15 = .ok (.ishl, 1) := by decide +kernel
theorem dX5_link_16 : decode cX5_link 16 = .ok (.ior, 1) := by decide +kernel
theorem dX5_link_17 : decode cX5_link 17 = .ok (.invokestatic 65, 3) := by decide +kernel
theorem dX5_link_20 : decode cX5_link 20 = .ok (.return_, 1) := by decide +kernel
theorem dX5_unlink_0 : decode cX5_unlink 0 = .ok (.aload_n 0, 1) := by decide +kernel
theorem dX5_unlink_1 : decode cX5_unlink 1 = .ok (.getfield 24, 3) := by decide +kernel
theorem dX5_unlink_4 : decode cX5_unlink 4 = .ok (.iload_n 1, 1) := by decide +kernel
theorem dX5_unlink_5 : decode cX5_unlink 5 = .ok (.aload_n 0, 1) := by decide +kernel
theorem dX5_unlink_6 : decode cX5_unlink 6 = .ok (.getfield 24, 3) := by decide +kernel
theorem dX5_unlink_9 : decode cX5_unlink 9 = .ok (.iload_n 1, 1) := by decide +kernel
theorem dX5_unlink_10 : decode cX5_unlink 10 = .ok (.invokestatic 72, 3) := by decide +kernel
theorem dX5_unlink_13 : decode cX5_unlink 13 = .ok (.iconst 1, 1) := by decide +kernel
theorem dX5_unlink_14 : decode cX5_unlink 14 = .ok (.iload_n 2, 1) := by decide +kernel
theorem dX5_unlink_15 : decode cX5_unlink 15 = .ok (.ishl, 1) := by decide +kernel
theorem dX5_unlink_16 : decode cX5_unlink 16 = .ok (.iconst (-1), 1) := by decide +kernel
theorem dX5_unlink_17 : decode cX5_unlink 17 = .ok (.ixor, 1) := by decide +kernel
theorem dX5_unlink_18 : decode cX5_unlink 18 = .ok (.iand, 1) := by decide +kernel
theorem dX5_unlink_19 : decode cX5_unlink 19 = .ok (.invokestatic 65, 3) := by decide +kernel
theorem dX5_unlink_22 : decode cX5_unlink 22 = .ok (.return_, 1) := by decide +kernel
theorem dX5_isLinked_0 : decode cX5_isLinked 0 = .ok (.aload_n 0, 1) := by decide +kernel
theorem dX5_isLinked_1 : decode cX5_isLinked 1 = .ok (.getfield 24, 3) := by decide +kernel
theorem dX5_isLinked_4 : decode cX5_isLinked 4 = .ok (.iload_n 1, 1) := by decide +kernel
theorem dX5_isLinked_5 : decode cX5_isLinked 5 = .ok (.invokestatic 72, 3) := by decide +kernel
theorem dX5_isLinked_8 : decode cX5_isLinked 8 = .ok (.iload_n 2, 1) := by decide +kernel
theorem dX5_isLinked_9 : decode cX5_isLinked 9 = .ok (.invokestatic 76, 3) := by decide +kernel
theorem dX5_isLinked_12 : decode cX5_isLinked 12 = .ok (.ireturn, 1) := by decide +kernel
theorem dX5_reaches_0 : decode cX5_reaches 0 = .ok (.aload_n 0, 1) := by decide +kernel
theorem dX5_reaches_1 : decode cX5_reaches 1 = .ok (.getfield 24, 3) := by decide +kernel
theorem dX5_reaches_4 : decode cX5_reaches 4 = .ok (.iload_n 1, 1) := by decide +kernel
theorem dX5_reaches_5 : decode cX5_reaches 5 = .ok (.iconst 0, 1) := by decide +kernel
theorem dX5_reaches_6 : decode cX5_reaches 6 = .ok (.iconst 0, 1) := by decide +kernel
theorem dX5_reaches_7 : decode cX5_reaches 7 = .ok (.invokestatic 79, 3) := by decide +kernel
theorem dX5_reaches_10 : decode cX5_reaches 10 = .ok (.iload_n 2, 1) := by decide +kernel
theorem dX5_reaches_11 : decode cX5_reaches 11 = .ok (.invokestatic 76, 3) := by decide +kernel
theorem dX5_reaches_14 : decode cX5_reaches 14 = .ok (.ireturn, 1) := by decide +kernel
theorem dX5_search_0 : decode cX5_search 0 = .ok (.iload_n 2, 1) := by decide +kernel
theorem dX5_search_1 : decode cX5_search 1 = .ok (.istore 4, 2) := by decide +kernel
theorem dX5_search_3 : decode cX5_search 3 = .ok (.iload_n 3, 1) := by decide +kernel
theorem dX5_search_4 : decode cX5_search 4 = .ok (.bipush 12, 2) := by decide +kernel
theorem dX5_search_6 : decode cX5_search 6 = .ok (.if_icmp .le 6, 3) := by decide +kernel
theorem dX5_search_9 : decode cX5_search 9 = .ok (.iload 4, 2) := by decide +kernel
theorem dX5_search_11 : decode cX5_search 11 = .ok (.ireturn, 1) := by decide +kernel
theorem dX5_search_12 : decode cX5_search 12 = .ok (.aload_n 0, 1) := by decide +kernel
theorem dX5_search_13 : decode cX5_search 13 = .ok (.iload_n 1, 1) := by decide +kernel
theorem dX5_search_14 : decode cX5_search 14 = .ok (.invokestatic 72, 3) := by decide +kernel
theorem dX5_search_17 : decode cX5_search 17 = .ok (.istore 5, 2) := by decide +kernel
theorem dX5_search_19 : decode cX5_search 19 = .ok (.iconst 0, 1) := by decide +kernel
theorem dX5_search_20 : decode cX5_search 20 = .ok (.istore 6, 2) := by decide +kernel
theorem dX5_search_22 : decode cX5_search 22 = .ok (.iload 6, 2) := by decide +kernel
theorem dX5_search_24 : decode cX5_search 24 = .ok (.bipush 12, 2) := by decide +kernel
theorem dX5_search_26 : decode cX5_search 26 = .ok (.if_icmp .ge 47, 3) := by decide +kernel
theorem dX5_search_29 : decode cX5_search 29 = .ok (.iload 5, 2) := by decide +kernel
theorem dX5_search_31 : decode cX5_search 31 = .ok (.iload 6, 2) := by decide +kernel
theorem dX5_search_33 : decode cX5_search 33 = .ok (.invokestatic 76, 3) := by decide +kernel
theorem dX5_search_36 : decode cX5_search 36 = .ok (.ifCond .eq 31, 3) := by decide +kernel
theorem dX5_search_39 : decode cX5_search 39 = .ok (.iload 4, 2) := by decide +kernel
theorem dX5_search_41 : decode cX5_search 41 = .ok (.iload 6, 2) := by decide +kernel
theorem dX5_search_43 : decode cX5_search 43 = .ok (.invokestatic 76, 3) := by decide +kernel
theorem dX5_search_46 : decode cX5_search 46 = .ok (.ifCond .ne 21, 3) := by decide +kernel
theorem dX5_search_49 : decode cX5_search 49 = .ok (.aload_n 0, 1) := by decide +kernel
theorem dX5_search_50 : decode cX5_search 50 = .ok (.iload 6, 2) := by decide +kernel
theorem dX5_search_52 : decode cX5_search 52 = .ok (.iload 4, 2) := by decide +kernel
theorem dX5_search_54 : decode cX5_search 54 = .ok (.iconst 1, 1) := by decide +kernel
theorem dX5_search_55 : decode cX5_search 55 = .ok (.iload 6, 2) := by decide +kernel
theorem dX5_search_57 : decode cX5_search 57 = .ok (.ishl, 1) := by decide +kernel
theorem dX5_search_58 : decode cX5_search 58 = .ok (.ior, 1) := by decide +kernel
theorem dX5_search_59 : decode cX5_search 59 = .ok (.iload_n 3, 1) := by decide +kernel
theorem dX5_search_60 : decode cX5_search 60 = .ok (.iconst 1, 1) := by decide +kernel
theorem dX5_search_61 : decode cX5_search 61 = .ok (.iadd, 1) := by decide +kernel
theorem dX5_search_62 : decode cX5_search 62 = .ok (.invokestatic 79, 3) := by decide +kernel
theorem dX5_search_65 : decode cX5_search 65 = .ok (.istore 4, 2) := by decide +kernel
theorem dX5_search_67 : decode cX5_search 67 = .ok (.iinc 6 1, 3) := by decide +kernel
theorem dX5_search_70 : decode cX5_search 70 = .ok (.goto (-48), 3) := by decide +kernel
theorem dX5_search_73 : decode cX5_search 73 = .ok (.iload 4, 2) := by decide +kernel
theorem dX5_search_75 : decode cX5_search 75 = .ok (.ireturn, 1) := by decide +kernel
theorem dX5_isReady_0 : decode cX5_isReady 0 = .ok (.iload_n 2, 1) := by decide +kernel
theorem dX5_isReady_1 : decode cX5_isReady 1 = .ok (.iload_n 1, 1) := by decide +kernel
theorem dX5_isReady_2 : decode cX5_isReady 2 = .ok (.invokestatic 76, 3) := by decide +kernel
theorem dX5_isReady_5 : decode cX5_isReady 5 = .ok (.ifCond .ne 22, 3) := by decide +kernel
theorem dX5_isReady_8 : decode cX5_isReady 8 = .ok (.aload_n 0, 1) := by decide +kernel
theorem dX5_isReady_9 : decode cX5_isReady 9 = .ok (.getfield 24, 3) := by decide +kernel
theorem dX5_isReady_12 : decode cX5_isReady 12 = .ok (.iload_n 1, 1) := by decide +kernel
theorem dX5_isReady_13 : decode cX5_isReady 13 = .ok (.invokestatic 72, 3) := by decide +kernel
theorem dX5_isReady_16 : decode cX5_isReady 16 = .ok (.iload_n 2, 1) := by decide +kernel
theorem dX5_isReady_17 : decode cX5_isReady 17 = .ok (.iconst (-1), 1) := by decide +kernel
theorem dX5_isReady_18 : decode cX5_isReady 18 = .ok (.ixor, 1) := by decide +kernel
theorem dX5_isReady_19 : decode cX5_isReady 19 = .ok (.iand, 1) := by decide +kernel
theorem dX5_isReady_20 : decode cX5_isReady 20 = .ok (.ifCond .ne 7, 3) := by decide +kernel
theorem dX5_isReady_23 : decode cX5_isReady 23 = .ok (.iconst 1, 1) := by decide +kernel
theorem dX5_isReady_24 : decode cX5_isReady 24 = .ok (.goto 4, 3) := by decide +kernel
theorem dX5_isReady_27 : decode cX5_isReady 27 = .ok (.iconst 0, 1) := by decide +kernel
theorem dX5_isReady_28 : decode cX5_isReady 28 = .ok (.ireturn, 1) := by decide +kernel
theorem dX5_takeStarts_0 : decode cX5_takeStarts 0 = .ok (.aload_n 1, 1) := by decide +kernel
theorem dX5_takeStarts_1 : decode cX5_takeStarts 1 = .ok (.aload_n 0, 1) := by decide +kernel
theorem dX5_takeStarts_2 : decode cX5_takeStarts 2 = .ok (.getfield 27, 3) := by decide +kernel
theorem dX5_takeStarts_5 : decode cX5_takeStarts 5 = .ok (.invokestatic 37, 3) := by decide +kernel
theorem dX5_takeStarts_8 : decode cX5_takeStarts 8 = .ok (.aload_n 0, 1) := by decide +kernel
theorem dX5_takeStarts_9 : decode cX5_takeStarts 9 = .ok (.iconst 1, 1) := by decide +kernel
theorem dX5_takeStarts_10 : decode cX5_takeStarts 10 = .ok (.putfield 45, 3) := by decide +kernel
theorem dX5_takeStarts_13 : decode cX5_takeStarts 13 = .ok (.return_, 1) := by decide +kernel
theorem dX5_hasStart_0 : decode cX5_hasStart 0 = .ok (.aload_n 0, 1) := by decide +kernel
theorem dX5_hasStart_1 : decode cX5_hasStart 1 = .ok (.getfield 45, 3) := by decide +kernel
theorem dX5_hasStart_4 : decode cX5_hasStart 4 = .ok (.ifCond .eq 19, 3) := by decide +kernel
theorem dX5_hasStart_7 : decode cX5_hasStart 7 = .ok (.aload_n 0, 1) := by decide +kernel
theorem dX5_hasStart_8 : decode cX5_hasStart 8 = .ok (.getfield 27, 3) := by decide +kernel
theorem dX5_hasStart_11 : decode cX5_hasStart 11 = .ok (.iload_n 1, 1) := by decide +kernel
theorem dX5_hasStart_12 : decode cX5_hasStart 12 = .ok (.invokestatic 72, 3) := by decide +kernel
theorem dX5_hasStart_15 : decode cX5_hasStart 15 = .ok (.iconst (-1), 1) := by decide +kernel
theorem dX5_hasStart_16 : decode cX5_hasStart 16 = .ok (.if_icmp .eq 7, 3) := by decide +kernel
theorem dX5_hasStart_19 : decode cX5_hasStart 19 = .ok (.iconst 1, 1) := by decide +kernel
theorem dX5_hasStart_20 : decode cX5_hasStart 20 = .ok (.goto 4, 3) := by decide +kernel
theorem dX5_hasStart_23 : decode cX5_hasStart 23 = .ok (.iconst 0, 1) := by decide +kernel
theorem dX5_hasStart_24 : decode cX5_hasStart 24 = .ok (.ireturn, 1) := by decide +kernel
theorem dX5_workOf_0 : decode cX5_workOf 0 = .ok (.iconst 0, 1) := by decide +kernel
theorem dX5_workOf_1 : decode cX5_workOf 1 = .ok (.istore_n 2, 1) := by decide +kernel
theorem dX5_workOf_2 : decode cX5_workOf 2 = .ok (.iconst 0, 1) := by decide +kernel
theorem dX5_workOf_3 : decode cX5_workOf 3 = .ok (.istore_n 3, 1) := by decide +kernel
theorem dX5_workOf_4 : decode cX5_workOf 4 = .ok (.iload_n 3, 1) := by decide +kernel
theorem dX5_workOf_5 : decode cX5_workOf 5 = .ok (.aload_n 0, 1) := by decide +kernel
theorem dX5_workOf_6 : decode cX5_workOf 6 = .ok (.getfield 41, 3) := by decide +kernel
theorem dX5_workOf_9 : decode cX5_workOf 9 = .ok (.if_icmp .ge 41, 3) := by decide +kernel
theorem dX5_workOf_12 : decode cX5_workOf 12 = .ok (.aload_n 0, 1) := by decide +kernel
theorem dX5_workOf_13 : decode cX5_workOf 13 = .ok (.getfield 15, 3) := by decide +kernel
theorem dX5_workOf_16 : decode cX5_workOf 16 = .ok (.iload_n 3, 1) := by decide +kernel
theorem dX5_workOf_17 : decode cX5_workOf 17 = .ok (.invokestatic 72, 3) := by decide +kernel
theorem dX5_workOf_20 : decode cX5_workOf 20 = .ok (.iload_n 1, 1) := by decide +kernel
theorem dX5_workOf_21 : decode cX5_workOf 21 = .ok (.if_icmp .ne 23, 3) := by decide +kernel
theorem dX5_workOf_24 : decode cX5_workOf 24 = .ok (.iload_n 2, 1) := by decide +kernel
theorem dX5_workOf_25 : decode cX5_workOf 25 = .ok (.aload_n 0, 1) := by decide +kernel
theorem dX5_workOf_26 : decode cX5_workOf 26 = .ok (.getfield 9, 3) := by decide +kernel
theorem dX5_workOf_29 : decode cX5_workOf 29 = .ok (.iload_n 3, 1) := by decide +kernel
theorem dX5_workOf_30 : decode cX5_workOf 30 = .ok (.invokestatic 72, 3) := by decide +kernel
theorem dX5_workOf_33 : decode cX5_workOf 33 = .ok (.aload_n 0, 1) := by decide +kernel
theorem dX5_workOf_34 : decode cX5_workOf 34 = .ok (.getfield 18, 3) := by decide +kernel
theorem dX5_workOf_37 : decode cX5_workOf 37 = .ok (.iload_n 3, 1) := by decide +kernel
theorem dX5_workOf_38 : decode cX5_workOf 38 = .ok (.invokestatic 72, 3) := by decide +kernel
theorem dX5_workOf_41 : decode cX5_workOf 41 = .ok (.imul, 1) := by decide +kernel
theorem dX5_workOf_42 : decode cX5_workOf 42 = .ok (.iadd, 1) := by decide +kernel
theorem dX5_workOf_43 : decode cX5_workOf 43 = .ok (.istore_n 2, 1) := by decide +kernel
theorem dX5_workOf_44 : decode cX5_workOf 44 = .ok (.iinc 3 1, 3) := by decide +kernel
theorem dX5_workOf_47 : decode cX5_workOf 47 = .ok (.goto (-43), 3) := by decide +kernel
theorem dX5_workOf_50 : decode cX5_workOf 50 = .ok (.iload_n 2, 1) := by decide +kernel
theorem dX5_workOf_51 : decode cX5_workOf 51 = .ok (.ireturn, 1) := by decide +kernel
theorem dX6_init_0 : decode cX6_init 0 = .ok (.aload_n 0, 1) := by decide +kernel
theorem dX6_init_1 : decode cX6_init 1 = .ok (.invokespecial 3, 3) := by decide +kernel
theorem dX6_init_4 : decode cX6_init 4 = .ok (.aload_n 0, 1) := by decide +kernel
theorem dX6_init_5 : decode cX6_init 5 = .ok (.bipush 60, 2) := by decide +kernel
theorem dX6_init_7 : decode cX6_init 7 = .ok (.newarray .char, 2) := by decide +kernel
theorem dX6_init_9 : decode cX6_init 9 = .ok (.putfield 9, 3) := by decide +kernel
theorem dX6_init_12 : decode cX6_init 12 = .ok (.aload_n 0, 1) := by decide +kernel
theorem dX6_init_13 : decode cX6_init 13 = .ok (.bipush 60, 2) := by decide +kernel
theorem dX6_init_15 : decode cX6_init 15 = .ok (.anewarray 15, 3) := by decide +kernel
theorem dX6_init_18 : decode cX6_init 18 = .ok (.putfield 17, 3) := by decide +kernel
theorem dX6_init_21 : decode cX6_init 21 = .ok (.aload_n 0, 1) := by decide +kernel
theorem dX6_init_22 : decode cX6_init 22 = .ok (.sipush 240, 3) := by decide +kernel
theorem dX6_init_25 : decode cX6_init 25 = .ok (.newarray .int, 2) := by decide +kernel
theorem dX6_init_27 : decode cX6_init 27 = .ok (.putfield 21, 3) := by decide +kernel
theorem dX6_init_30 : decode cX6_init 30 = .ok (.return_, 1) := by decide +kernel
theorem dX7_init_0 : decode cX7_init 0 = .ok (.aload_n 0, 1) := by decide +kernel
theorem dX7_init_1 : decode cX7_init 1 = .ok (.invokespecial 3, 3) := by decide +kernel
theorem dX7_init_4 : decode cX7_init 4 = .ok (.aload_n 0, 1) := by decide +kernel
theorem dX7_init_5 : decode cX7_init 5 = .ok (.new 9, 3) := by decide +kernel
theorem dX7_init_8 : decode cX7_init 8 = .ok (.dup, 1) := by decide +kernel
theorem dX7_init_9 : decode cX7_init 9 = .ok (.invokespecial 11, 3) := by decide +kernel
theorem dX7_init_12 : decode cX7_init 12 = .ok (.putfield 12, 3) := by decide +kernel
theorem dX7_init_15 : decode cX7_init 15 = .ok (.aload_n 0, 1) := by decide +kernel
theorem dX7_init_16 : decode cX7_init 16 = .ok (.new 9, 3) := by decide +kernel
theorem dX7_init_19 : decode cX7_init 19 = .ok (.dup, 1) := by decide +kernel
theorem dX7_init_20 : decode cX7_init 20 = .ok (.invokespecial 11, 3) := by decide +kernel
theorem dX7_init_23 : decode cX7_init 23 = .ok (.putfield 16, 3) := by decide +kernel
theorem dX7_init_26 : decode cX7_init 26 = .ok (.aload_n 0, 1) := by decide +kernel
theorem dX7_init_27 : decode cX7_init 27 = .ok (.new 9, 3) := by decide +kernel
theorem dX7_init_30 : decode cX7_init 30 = .ok (.dup, 1) := by decide +kernel
theorem dX7_init_31 : decode cX7_init 31 = .ok (.invokespecial 11, 3) := by decide +kernel
theorem dX7_init_34 : decode cX7_init 34 = .ok (.putfield 19, 3) := by decide +kernel
theorem dX7_init_37 : decode cX7_init 37 = .ok (.aload_n 0, 1) := by decide +kernel
theorem dX7_init_38 : decode cX7_init 38 = .ok (.new 22, 3) := by decide +kernel
theorem dX7_init_41 : decode cX7_init 41 = .ok (.dup, 1) := by decide +kernel
theorem dX7_init_42 : decode cX7_init 42 = .ok (.invokespecial 24, 3) := by decide +kernel
theorem dX7_init_45 : decode cX7_init 45 = .ok (.putfield 25, 3) := by decide +kernel
theorem dX7_init_48 : decode cX7_init 48 = .ok (.aload_n 0, 1) := by decide +kernel
theorem dX7_init_49 : decode cX7_init 49 = .ok (.new 29, 3) := by decide +kernel
theorem dX7_init_52 : decode cX7_init 52 = .ok (.dup, 1) := by decide +kernel
theorem dX7_init_53 : decode cX7_init 53 = .ok (.invokespecial 31, 3) := by decide +kernel
theorem dX7_init_56 : decode cX7_init 56 = .ok (.putfield 32, 3) := by decide +kernel
theorem dX7_init_59 : decode cX7_init 59 = .ok (.aload_n 0, 1) := by decide +kernel
theorem dX7_init_60 : decode cX7_init 60 = .ok (.new 36, 3) := by decide +kernel
theorem dX7_init_63 : decode cX7_init 63 = .ok (.dup, 1) := by decide +kernel
theorem dX7_init_64 : decode cX7_init 64 = .ok (.invokespecial 38, 3) := by decide +kernel
theorem dX7_init_67 : decode cX7_init 67 = .ok (.putfield 39, 3) := by decide +kernel
theorem dX7_init_70 : decode cX7_init 70 = .ok (.aload_n 0, 1) := by decide +kernel
theorem dX7_init_71 : decode cX7_init 71 = .ok (.new 43, 3) := by decide +kernel
theorem dX7_init_74 : decode cX7_init 74 = .ok (.dup, 1) := by decide +kernel
theorem dX7_init_75 : decode cX7_init 75 = .ok (.invokespecial 45, 3) := by decide +kernel
theorem dX7_init_78 : decode cX7_init 78 = .ok (.putfield 46, 3) := by decide +kernel
theorem dX7_init_81 : decode cX7_init 81 = .ok (.aload_n 0, 1) := by decide +kernel
theorem dX7_init_82 : decode cX7_init 82 = .ok (.bipush 12, 2) := by decide +kernel
theorem dX7_init_84 : decode cX7_init 84 = .ok (.newarray .int, 2) := by decide +kernel
theorem dX7_init_86 : decode cX7_init 86 = .ok (.putfield 50, 3) := by decide +kernel
theorem dX7_init_89 : decode cX7_init 89 = .ok (.aload_n 0, 1) := by decide +kernel
theorem dX7_init_90 : decode cX7_init 90 = .ok (.iconst (-1), 1) := by decide +kernel
theorem dX7_init_91 : decode cX7_init 91 = .ok (.putfield 54, 3) := by decide +kernel
theorem dX7_init_94 : decode cX7_init 94 = .ok (.aload_n 0, 1) := by decide +kernel
theorem dX7_init_95 : decode cX7_init 95 = .ok (.iconst (-1), 1) := by decide +kernel
theorem dX7_init_96 : decode cX7_init 96 = .ok (.putfield 58, 3) := by decide +kernel
theorem dX7_init_99 : decode cX7_init 99 = .ok (.aload_n 0, 1) := by decide +kernel
theorem dX7_init_100 : decode cX7_init 100 = .ok (.bipush 46, 2) := by decide +kernel
theorem dX7_init_102 : decode cX7_init 102 = .ok (.putfield 61, 3) := by decide +kernel
