theorem dX2_init_0 : decode cX2_init 0 = .ok (.aload_n 0, 1) := by decide +kernel
theorem dX2_init_1 : decode cX2_init 1 = .ok (.invokespecial 3, 3) := by decide +kernel
theorem dX2_init_4 : decode cX2_init 4 = .ok (.aload_n 0, 1) := by decide +kernel
theorem dX2_init_5 : decode cX2_init 5 = .ok (.bipush 8, 2) := by decide +kernel
theorem dX2_init_7 : decode cX2_init 7 = .ok (.anewarray 9, 3) := by decide +kernel
theorem dX2_init_10 : decode cX2_init 10 = .ok (.putfield 11, 3) := by decide +kernel
theorem dX2_init_13 : decode cX2_init 13 = .ok (.iconst 0, 1) := by decide +kernel
theorem dX2_init_14 : decode cX2_init 14 = .ok (.istore_n 1, 1) := by decide +kernel
theorem dX2_init_15 : decode cX2_init 15 = .ok (.iload_n 1, 1) := by decide +kernel
theorem dX2_init_16 : decode cX2_init 16 = .ok (.aload_n 0, 1) := by decide +kernel
theorem dX2_init_17 : decode cX2_init 17 = .ok (.getfield 11, 3) := by decide +kernel
theorem dX2_init_20 : decode cX2_init 20 = .ok (.arraylength, 1) := by decide +kernel
theorem dX2_init_21 : decode cX2_init 21 = .ok (.if_icmp .ge 22, 3) := by decide +kernel
theorem dX2_init_24 : decode cX2_init 24 = .ok (.aload_n 0, 1) := by decide +kernel
theorem dX2_init_25 : decode cX2_init 25 = .ok (.getfield 11, 3) := by decide +kernel
theorem dX2_init_28 : decode cX2_init 28 = .ok (.iload_n 1, 1) := by decide +kernel
theorem dX2_init_29 : decode cX2_init 29 = .ok (.new 9, 3) := by decide +kernel
theorem dX2_init_32 : decode cX2_init 32 = .ok (.dup, 1) := by decide +kernel
theorem dX2_init_33 : decode cX2_init 33 = .ok (.invokespecial 17, 3) := by decide +kernel
theorem dX2_init_36 : decode cX2_init 36 = .ok (.aastore, 1) := by decide +kernel
theorem dX2_init_37 : decode cX2_init 37 = .ok (.iinc 1 1, 3) := by decide +kernel
theorem dX2_init_40 : decode cX2_init 40 = .ok (.goto (-25), 3) := by decide +kernel
theorem dX2_init_43 : decode cX2_init 43 = .ok (.return_, 1) := by decide +kernel
theorem dX2_keep_0 : decode cX2_keep 0 = .ok (.aload_n 0, 1) := by decide +kernel
theorem dX2_keep_1 : decode cX2_keep 1 = .ok (.aload_n 0, 1) := by decide +kernel
theorem dX2_keep_2 : decode cX2_keep 2 = .ok (.getfield 18, 3) := by decide +kernel
theorem dX2_keep_5 : decode cX2_keep 5 = .ok (.invokevirtual 22, 3) := by decide +kernel
theorem dX2_keep_8 : decode cX2_keep 8 = .ok (.astore_n 2, 1) := by decide +kernel
theorem dX2_keep_9 : decode cX2_keep 9 = .ok (.aload_n 2, 1) := by decide +kernel
theorem dX2_keep_10 : decode cX2_keep 10 = .ok (.ifnull 8, 3) := by decide +kernel
theorem dX2_keep_13 : decode cX2_keep 13 = .ok (.aload_n 2, 1) := by decide +kernel
theorem dX2_keep_14 : decode cX2_keep 14 = .ok (.aload_n 1, 1) := by decide +kernel
theorem dX2_keep_15 : decode cX2_keep 15 = .ok (.invokevirtual 26, 3) := by decide +kernel
theorem dX2_keep_18 : decode cX2_keep 18 = .ok (.aload_n 0, 1) := by decide +kernel
theorem dX2_keep_19 : decode cX2_keep 19 = .ok (.aload_n 0, 1) := by decide +kernel
theorem dX2_keep_20 : decode cX2_keep 20 = .ok (.getfield 18, 3) := by decide +kernel
theorem dX2_keep_23 : decode cX2_keep 23 = .ok (.iconst 1, 1) := by decide +kernel
theorem dX2_keep_24 : decode cX2_keep 24 = .ok (.iadd, 1) := by decide +kernel
theorem dX2_keep_25 : decode cX2_keep 25 = .ok (.bipush 8, 2) := by decide +kernel
theorem dX2_keep_27 : decode cX2_keep 27 = .ok (.if_icmp .ge 12, 3) := by decide +kernel
theorem dX2_keep_30 : decode cX2_keep 30 = .ok (.aload_n 0, 1) := by decide +kernel
theorem dX2_keep_31 : decode cX2_keep 31 = .ok (.getfield 18, 3) := by decide +kernel
theorem dX2_keep_34 : decode cX2_keep 34 = .ok (.iconst 1, 1) := by decide +kernel
theorem dX2_keep_35 : decode cX2_keep 35 = .ok (.iadd, 1) := by decide +kernel
theorem dX2_keep_36 : decode cX2_keep 36 = .ok (.goto 4, 3) := by decide +kernel
theorem dX2_keep_39 : decode cX2_keep 39 = .ok (.iconst 0, 1) := by decide +kernel
theorem dX2_keep_40 : decode cX2_keep 40 = .ok (.putfield 18, 3) := by decide +kernel
theorem dX2_keep_43 : decode cX2_keep 43 = .ok (.aload_n 0, 1) := by decide +kernel
theorem dX2_keep_44 : decode cX2_keep 44 = .ok (.aload_n 0, 1) := by decide +kernel
theorem dX2_keep_45 : decode cX2_keep 45 = .ok (.getfield 30, 3) := by decide +kernel
theorem dX2_keep_48 : decode cX2_keep 48 = .ok (.iconst 1, 1) := by decide +kernel
theorem dX2_keep_49 : decode cX2_keep 49 = .ok (.iadd, 1) := by decide +kernel
theorem dX2_keep_50 : decode cX2_keep 50 = .ok (.bipush 8, 2) := by decide +kernel
theorem dX2_keep_52 : decode cX2_keep 52 = .ok (.invokestatic 33, 3) := by decide +kernel
theorem dX2_keep_55 : decode cX2_keep 55 = .ok (.putfield 30, 3) := by decide +kernel
theorem dX2_keep_58 : decode cX2_keep 58 = .ok (.return_, 1) := by decide +kernel
theorem dX2_takeInto_0 : decode cX2_takeInto 0 = .ok (.aload_n 0, 1) := by decide +kernel
theorem dX2_takeInto_1 : decode cX2_takeInto 1 = .ok (.aload_n 0, 1) := by decide +kernel
theorem dX2_takeInto_2 : decode cX2_takeInto 2 = .ok (.getfield 18, 3) := by decide +kernel
theorem dX2_takeInto_5 : decode cX2_takeInto 5 = .ok (.ifCond .le 12, 3) := by decide +kernel
theorem dX2_takeInto_8 : decode cX2_takeInto 8 = .ok (.aload_n 0, 1) := by decide +kernel
theorem dX2_takeInto_9 : decode cX2_takeInto 9 = .ok (.getfield 18, 3) := by decide +kernel
theorem dX2_takeInto_12 : decode cX2_takeInto 12 = .ok (.iconst 1, 1) := by decide +kernel
theorem dX2_takeInto_13 : decode cX2_takeInto 13 = .ok (.isub, 1) := by decide +kernel
theorem dX2_takeInto_14 : decode cX2_takeInto 14 = .ok (.goto 5, 3) := by decide +kernel
theorem dX2_takeInto_17 : decode cX2_takeInto 17 = .ok (.bipush 7, 2) := by decide +kernel
theorem dX2_takeInto_19 : decode cX2_takeInto 19 = .ok (.putfield 18, 3) := by decide +kernel
theorem dX2_takeInto_22 : decode cX2_takeInto 22 = .ok (.aload_n 0, 1) := by decide +kernel
theorem dX2_takeInto_23 : decode cX2_takeInto 23 = .ok (.aload_n 0, 1) := by decide +kernel
theorem dX2_takeInto_24 : decode cX2_takeInto 24 = .ok (.getfield 30, 3) := by decide +kernel
theorem dX2_takeInto_27 : decode cX2_takeInto 27 = .ok (.iconst 1, 1) := by decide +kernel
theorem dX2_takeInto_28 : decode cX2_takeInto 28 = .ok (.isub, 1) := by decide +kernel
theorem dX2_takeInto_29 : decode cX2_takeInto 29 = .ok (.iconst 0, 1) := by decide +kernel
theorem dX2_takeInto_30 : decode cX2_takeInto 30 = .ok (.invokestatic 39, 3) := by decide +kernel
theorem dX2_takeInto_33 : decode cX2_takeInto 33 = .ok (.putfield 30, 3) := by decide +kernel
theorem dX2_takeInto_36 : decode cX2_takeInto 36 = .ok (.aload_n 0, 1) := by decide +kernel
theorem dX2_takeInto_37 : decode cX2_takeInto 37 = .ok (.aload_n 0, 1) := by decide +kernel
theorem dX2_takeInto_38 : decode cX2_takeInto 38 = .ok (.getfield 18, 3) := by decide +kernel
theorem dX2_takeInto_41 : decode cX2_takeInto 41 = .ok (.invokevirtual 22, 3) := by decide +kernel
theorem dX2_takeInto_44 : decode cX2_takeInto 44 = .ok (.astore_n 2, 1) := by decide +kernel
theorem dX2_takeInto_45 : decode cX2_takeInto 45 = .ok (.aload_n 2, 1) := by decide +kernel
theorem dX2_takeInto_46 : decode cX2_takeInto 46 = .ok (.ifnull 8, 3) := by decide +kernel
theorem dX2_takeInto_49 : decode cX2_takeInto 49 = .ok (.aload_n 1, 1) := by decide +kernel
theorem dX2_takeInto_50 : decode cX2_takeInto 50 = .ok (.aload_n 2, 1) := by decide +kernel
theorem dX2_takeInto_51 : decode cX2_takeInto 51 = .ok (.invokevirtual 26, 3) := by decide +kernel
theorem dX2_takeInto_54 : decode cX2_takeInto 54 = .ok (.return_, 1) := by decide +kernel
theorem dX2_clear_0 : decode cX2_clear 0 = .ok (.aload_n 0, 1) := by decide +kernel
theorem dX2_clear_1 : decode cX2_clear 1 = .ok (.iconst 0, 1) := by decide +kernel
theorem dX2_clear_2 : decode cX2_clear 2 = .ok (.putfield 30, 3) := by decide +kernel
theorem dX2_clear_5 : decode cX2_clear 5 = .ok (.return_, 1) := by decide +kernel
theorem dX2_stateAt_0 : decode cX2_stateAt 0 = .ok (.iload_n 1, 1) := by decide +kernel
theorem dX2_stateAt_1 : decode cX2_stateAt 1 = .ok (.ifCond .lt 21, 3) := by decide +kernel
theorem dX2_stateAt_4 : decode cX2_stateAt 4 = .ok (.iload_n 1, 1) := by decide +kernel
theorem dX2_stateAt_5 : decode cX2_stateAt 5 = .ok (.aload_n 0, 1) := by decide +kernel
theorem dX2_stateAt_6 : decode cX2_stateAt 6 = .ok (.getfield 11, 3) := by decide +kernel
theorem dX2_stateAt_9 : decode cX2_stateAt 9 = .ok (.arraylength, 1) := by decide +kernel
theorem dX2_stateAt_10 : decode cX2_stateAt 10 = .ok (.if_icmp .ge 12, 3) := by decide +kernel
theorem dX2_stateAt_13 : decode cX2_stateAt 13 = .ok (.aload_n 0, 1) := by decide +kernel
theorem dX2_stateAt_14 : decode cX2_stateAt 14 = .ok (.getfield 11, 3) := by decide +kernel
theorem dX2_stateAt_17 : decode cX2_stateAt 17 = .ok (.iload_n 1, 1) := by decide +kernel
theorem dX2_stateAt_18 : decode cX2_stateAt 18 = .ok (.aaload, 1) := by decide +kernel
theorem dX2_stateAt_19 : decode cX2_stateAt 19 = .ok (.goto 4, 3) := by decide +kernel
theorem dX2_stateAt_22 : decode cX2_stateAt 22 = .ok (.aconst_null, 1) := by decide +kernel
theorem dX2_stateAt_23 : decode cX2_stateAt 23 = .ok (.areturn, 1) := by decide +kernel
theorem dX3_init_0 : decode cX3_init 0 = .ok (.aload_n 0, 1) := by decide +kernel
theorem dX3_init_1 : decode cX3_init 1 = .ok (.invokespecial 3, 3) := by decide +kernel
theorem dX3_init_4 : decode cX3_init 4 = .ok (.aload_n 0, 1) := by decide +kernel
theorem dX3_init_5 : decode cX3_init 5 = .ok (.sipush 414, 3) := by decide +kernel
theorem dX3_init_8 : decode cX3_init 8 = .ok (.newarray .char, 2) := by decide +kernel
theorem dX3_init_10 : decode cX3_init 10 = .ok (.putfield 9, 3) := by decide +kernel
theorem dX3_init_13 : decode cX3_init 13 = .ok (.return_, 1) := by decide +kernel
theorem dX3_clear_0 : decode cX3_clear 0 = .ok (.aload_n 0, 1) := by decide +kernel
theorem dX3_clear_1 : decode cX3_clear 1 = .ok (.iconst 0, 1) := by decide +kernel
theorem dX3_clear_2 : decode cX3_clear 2 = .ok (.putfield 15, 3) := by decide +kernel
theorem dX3_clear_5 : decode cX3_clear 5 = .ok (.return_, 1) := by decide +kernel
theorem dX3_write_0 : decode cX3_write 0 = .ok (.aload_n 0, 1) := by decide +kernel
theorem dX3_write_1 : decode cX3_write 1 = .ok (.getfield 15, 3) := by decide +kernel
theorem dX3_write_4 : decode cX3_write 4 = .ok (.ifCond .lt 35, 3) := by decide +kernel
theorem dX3_write_7 : decode cX3_write 7 = .ok (.aload_n 0, 1) := by decide +kernel
theorem dX3_write_8 : decode cX3_write 8 = .ok (.getfield 15, 3) := by decide +kernel
theorem dX3_write_11 : decode cX3_write 11 = .ok (.aload_n 0, 1) := by decide +kernel
theorem dX3_write_12 : decode cX3_write 12 = .ok (.getfield 9, 3) := by decide +kernel
theorem dX3_write_15 : decode cX3_write 15 = .ok (.arraylength, 1) := by decide +kernel
theorem dX3_write_16 : decode cX3_write 16 = .ok (.if_icmp .ge 23, 3) := by decide +kernel
theorem dX3_write_19 : decode cX3_write 19 = .ok (.aload_n 0, 1) := by decide +kernel
theorem dX3_write_20 : decode cX3_write 20 = .ok (.getfield 9, 3) := by decide +kernel
theorem dX3_write_23 : decode cX3_write 23 = .ok (.aload_n 0, 1) := by decide +kernel
theorem dX3_write_24 : decode cX3_write 24 = .ok (.getfield 15, 3) := by decide +kernel
theorem dX3_write_27 : decode cX3_write 27 = .ok (.iload_n 1, 1) := by decide +kernel
theorem dX3_write_28 : decode cX3_write 28 = .ok (.castore, 1) := by decide +kernel
theorem dX3_write_29 : decode cX3_write 29 = .ok (.aload_n 0, 1) := by decide +kernel
theorem dX3_write_30 : decode cX3_write 30 = .ok (.dup, 1) := by decide +kernel
theorem dX3_write_31 : decode cX3_write 31 = .ok (.getfield 15, 3) := by decide +kernel
theorem dX3_write_34 : decode cX3_write 34 = .ok (.iconst 1, 1) := by decide +kernel
theorem dX3_write_35 : decode cX3_write 35 = .ok (.iadd, 1) := by decide +kernel
theorem dX3_write_36 : decode cX3_write 36 = .ok (.putfield 15, 3) := by decide +kernel
theorem dX3_write_39 : decode cX3_write 39 = .ok (.return_, 1) := by decide +kernel
theorem dX3_writeNumber_0 : decode cX3_writeNumber 0 = .ok (.iload_n 1, 1) := by decide +kernel
theorem dX3_writeNumber_1 : decode cX3_writeNumber 1 = .ok (.bipush 100, 2) := by decide +kernel
theorem dX3_writeNumber_3 : decode cX3_writeNumber 3 = .ok (.if_icmp .lt 18, 3) := by decide +kernel
theorem dX3_writeNumber_6 : decode cX3_writeNumber 6 = .ok (.aload_n 0, 1) := by decide +kernel
theorem dX3_writeNumber_7 : decode cX3_writeNumber 7 = .ok (.bipush 48, 2) := by decide +kernel
theorem dX3_writeNumber_9 : decode cX3_writeNumber 9 = .ok (.iload_n 1, 1) := by decide +kernel
theorem dX3_writeNumber_10 : decode cX3_writeNumber 10 = .ok (.bipush 100, 2) := by decide +kernel
theorem dX3_writeNumber_12 : decode cX3_writeNumber 12 = .ok (.idiv, 1) := by decide +kernel
theorem dX3_writeNumber_13 : decode cX3_writeNumber 13 = .ok (.bipush 10, 2) := by decide +kernel
theorem dX3_writeNumber_15 : decode cX3_writeNumber 15 = .ok (.irem, 1) := by decide +kernel
theorem dX3_writeNumber_16 : decode cX3_writeNumber 16 = .ok (.iadd, 1) := by decide +kernel
theorem dX3_writeNumber_17 : decode cX3_writeNumber 17 = .ok (.i2c, 1) := by decide +kernel
theorem dX3_writeNumber_18 : decode cX3_writeNumber 18 = .ok (.invokevirtual 19, 3) := by decide +kernel
theorem dX3_writeNumber_21 : decode cX3_writeNumber 21 = .ok (.iload_n 1, 1) := by decide +kernel
theorem dX3_writeNumber_22 : decode cX3_writeNumber 22 = .ok (.bipush 10, 2) := by decide +kernel
theorem dX3_writeNumber_24 : decode cX3_writeNumber 24 = .ok (.if_icmp .lt 18, 3) := by decide +kernel
theorem dX3_writeNumber_27 : decode cX3_writeNumber 27 = .ok (.aload_n 0, 1) := by decide +kernel
theorem dX3_writeNumber_28 : decode cX3_writeNumber 28 = .ok (.bipush 48, 2) := by decide +kernel
theorem dX3_writeNumber_30 : decode cX3_writeNumber 30 = .ok (.iload_n 1, 1) := by decide +kernel
theorem dX3_writeNumber_31 : decode cX3_writeNumber 31 = .ok (.bipush 10, 2) := by decide +kernel
theorem dX3_writeNumber_33 : decode cX3_writeNumber 33 = .ok (.idiv, 1) := by decide +kernel
theorem dX3_writeNumber_34 : decode cX3_writeNumber 34 = .ok (.bipush 10, 2) := by decide +kernel
theorem dX3_writeNumber_36 : decode cX3_writeNumber 36 = .ok (.irem, 1) := by decide +kernel
theorem dX3_writeNumber_37 : decode cX3_writeNumber 37 = .ok (.iadd, 1) := by decide +kernel
theorem dX3_writeNumber_38 : decode cX3_writeNumber 38 = .ok (.i2c, 1) := by decide +kernel
theorem dX3_writeNumber_39 : decode cX3_writeNumber 39 = .ok (.invokevirtual 19, 3) := by decide +kernel
theorem dX3_writeNumber_42 : decode cX3_writeNumber 42 = .ok (.aload_n 0, 1) := by decide +kernel
theorem dX3_writeNumber_43 : decode cX3_writeNumber 43 = .ok (.bipush 48, 2) := by decide +kernel
theorem dX3_writeNumber_45 : decode cX3_writeNumber 45 = .ok (.iload_n 1, 1) := by decide +kernel
theorem dX3_writeNumber_46 : decode cX3_writeNumber 46 = .ok (.bipush 10, 2) := by decide +kernel
theorem dX3_writeNumber_48 : decode cX3_writeNumber 48 = .ok (.irem, 1) := by decide +kernel
theorem dX3_writeNumber_49 : decode cX3_writeNumber 49 = .ok (.iadd, 1) := by decide +kernel
theorem dX3_writeNumber_50 : decode cX3_writeNumber 50 = .ok (.i2c, 1) := by decide +kernel
theorem dX3_writeNumber_51 : decode cX3_writeNumber 51 = .ok (.invokevirtual 19, 3) := by decide +kernel
theorem dX3_writeNumber_54 : decode cX3_writeNumber 54 = .ok (.return_, 1) := by decide +kernel
theorem dX4_init_0 : decode cX4_init 0 = .ok (.aload_n 0, 1) := by decide +kernel
theorem dX4_init_1 : decode cX4_init 1 = .ok (.invokespecial 3, 3) := by decide +kernel
theorem dX4_init_4 : decode cX4_init 4 = .ok (.aload_n 0, 1) := by decide +kernel
theorem dX4_init_5 : decode cX4_init 5 = .ok (.bipush 12, 2) := by decide +kernel
theorem dX4_init_7 : decode cX4_init 7 = .ok (.newarray .int, 2) := by decide +kernel
theorem dX4_init_9 : decode cX4_init 9 = .ok (.putfield 9, 3) := by decide +kernel
theorem dX4_init_12 : decode cX4_init 12 = .ok (.aload_n 0, 1) := by decide +kernel
theorem dX4_init_13 : decode cX4_init 13 = .ok (.bipush 12, 2) := by decide +kernel
theorem dX4_init_15 : decode cX4_init 15 = .ok (.newarray .int, 2) := by decide +kernel
theorem dX4_init_17 : decode cX4_init 17 = .ok (.putfield 15, 3) := by decide +kernel
theorem dX4_init_20 : decode cX4_init 20 = .ok (.aload_n 0, 1) := by decide +kernel
theorem dX4_init_21 : decode cX4_init 21 = .ok (.bipush 12, 2) := by decide +kernel
theorem dX4_init_23 : decode cX4_init 23 = .ok (.newarray .int, 2) := by decide +kernel
theorem dX4_init_25 : decode cX4_init 25 = .ok (.putfield 18, 3) := by decide +kernel
theorem dX4_init_28 : decode cX4_init 28 = .ok (.aload_n 0, 1) := by decide +kernel
theorem dX4_init_29 : decode cX4_init 29 = .ok (.bipush 12, 2) := by decide +kernel
theorem dX4_init_31 : decode cX4_init 31 = .ok (.newarray .int, 2) := by decide +kernel
theorem dX4_init_33 : decode cX4_init 33 = .ok (.putfield 21, 3) := by decide +kernel
theorem dX4_init_36 : decode cX4_init 36 = .ok (.aload_n 0, 1) := by decide +kernel
theorem dX4_init_37 : decode cX4_init 37 = .ok (.bipush 12, 2) := by decide +kernel
theorem dX4_init_39 : decode cX4_init 39 = .ok (.newarray .int, 2) := by decide +kernel
theorem dX4_init_41 : decode cX4_init 41 = .ok (.putfield 24, 3) := by decide +kernel
theorem dX4_init_44 : decode cX4_init 44 = .ok (.aload_n 0, 1) := by decide +kernel
theorem dX4_init_45 : decode cX4_init 45 = .ok (.bipush 12, 2) := by decide +kernel
theorem dX4_init_47 : decode cX4_init 47 = .ok (.newarray .int, 2) := by decide +kernel
theorem dX4_init_49 : decode cX4_init 49 = .ok (.putfield 27, 3) := by decide +kernel
theorem dX4_init_52 : decode cX4_init 52 = .ok (.aload_n 0, 1) := by decide +kernel
theorem dX4_init_53 : decode cX4_init 53 = .ok (.sipush 414, 3) := by decide +kernel
theorem dX4_init_56 : decode cX4_init 56 = .ok (.newarray .int, 2) := by decide +kernel
theorem dX4_init_58 : decode cX4_init 58 = .ok (.putfield 30, 3) := by decide +kernel
theorem dX4_init_61 : decode cX4_init 61 = .ok (.return_, 1) := by decide +kernel
theorem dX4_make_0 : decode cX4_make 0 = .ok (.aload_n 0, 1) := by decide +kernel
theorem dX4_make_1 : decode cX4_make 1 = .ok (.aload_n 1, 1) := by decide +kernel
theorem dX4_make_2 : decode cX4_make 2 = .ok (.invokevirtual 33, 3) := by decide +kernel
theorem dX4_make_5 : decode cX4_make 5 = .ok (.aload_n 0, 1) := by decide +kernel
theorem dX4_make_6 : decode cX4_make 6 = .ok (.aload_n 1, 1) := by decide +kernel
theorem dX4_make_7 : decode cX4_make 7 = .ok (.invokevirtual 37, 3) := by decide +kernel
theorem dX4_make_10 : decode cX4_make 10 = .ok (.aload_n 0, 1) := by decide +kernel
theorem dX4_make_11 : decode cX4_make 11 = .ok (.aload_n 1, 1) := by decide +kernel
theorem dX4_make_12 : decode cX4_make 12 = .ok (.invokevirtual 40, 3) := by decide +kernel
theorem dX4_make_15 : decode cX4_make 15 = .ok (.aload_n 0, 1) := by decide +kernel
theorem dX4_make_16 : decode cX4_make 16 = .ok (.aload_n 1, 1) := by decide +kernel
theorem dX4_make_17 : decode cX4_make 17 = .ok (.invokevirtual 43, 3) := by decide +kernel
theorem dX4_make_20 : decode cX4_make 20 = .ok (.aload_n 0, 1) := by decide +kernel
theorem dX4_make_21 : decode cX4_make 21 = .ok (.aload_n 1, 1) := by decide +kernel
theorem dX4_make_22 : decode cX4_make 22 = .ok (.invokevirtual 46, 3) := by decide +kernel
theorem dX4_make_25 : decode cX4_make 25 = .ok (.aload_n 0, 1) := by decide +kernel
theorem dX4_make_26 : decode cX4_make 26 = .ok (.aload_n 1, 1) := by decide +kernel
theorem dX4_make_27 : decode cX4_make 27 = .ok (.invokevirtual 49, 3) := by decide +kernel
theorem dX4_make_30 : decode cX4_make 30 = .ok (.return_, 1) := by decide +kernel
theorem dX4_slackOf_0 : decode cX4_slackOf 0 = .ok (.aload_n 0, 1) := by decide +kernel
theorem dX4_slackOf_1 : decode cX4_slackOf 1 = .ok (.getfield 24, 3) := by decide +kernel
theorem dX4_slackOf_4 : decode cX4_slackOf 4 = .ok (.iload_n 1, 1) := by decide +kernel
theorem dX4_slackOf_5 : decode cX4_slackOf 5 = .ok (.invokestatic 52, 3) := by decide +kernel
theorem dX4_slackOf_8 : decode cX4_slackOf 8 = .ok (.aload_n 0, 1) := by decide +kernel
theorem dX4_slackOf_9 : decode cX4_slackOf 9 = .ok (.getfield 18, 3) := by decide +kernel
theorem dX4_slackOf_12 : decode cX4_slackOf 12 = .ok (.iload_n 1, 1) := by decide +kernel
theorem dX4_slackOf_13 : decode cX4_slackOf 13 = .ok (.invokestatic 52, 3) := by decide +kernel
theorem dX4_slackOf_16 : decode cX4_slackOf 16 = .ok (.isub, 1) := by decide +kernel
theorem dX4_slackOf_17 : decode cX4_slackOf 17 = .ok (.ireturn, 1) := by decide +kernel
theorem dX4_usedOn_0 : decode cX4_usedOn 0 = .ok (.iload_n 2, 1) := by decide +kernel
theorem dX4_usedOn_1 : decode cX4_usedOn 1 = .ok (.sipush 138, 3) := by decide +kernel
theorem dX4_usedOn_4 : decode cX4_usedOn 4 = .ok (.if_icmp .ge 20, 3) := by decide +kernel
theorem dX4_usedOn_7 : decode cX4_usedOn 7 = .ok (.aload_n 0, 1) := by decide +kernel
theorem dX4_usedOn_8 : decode cX4_usedOn 8 = .ok (.getfield 30, 3) := by decide +kernel
theorem dX4_usedOn_11 : decode cX4_usedOn 11 = .ok (.iload_n 1, 1) := by decide +kernel
theorem dX4_usedOn_12 : decode cX4_usedOn 12 = .ok (.sipush 138, 3) := by decide +kernel
theorem dX4_usedOn_15 : decode cX4_usedOn 15 = .ok (.imul, 1) := by decide +kernel
theorem dX4_usedOn_16 : decode cX4_usedOn 16 = .ok (.iload_n 2, 1) := by decide +kernel
theorem dX4_usedOn_17 : decode cX4_usedOn 17 = .ok (.iadd, 1) := by decide +kernel
theorem dX4_usedOn_18 : decode cX4_usedOn 18 = .ok (.invokestatic 52, 3) := by decide +kernel
theorem dX4_usedOn_21 : decode cX4_usedOn 21 = .ok (.goto 4, 3) := by decide +kernel
theorem dX4_usedOn_24 : decode cX4_usedOn 24 = .ok (.iconst 0, 1) := by decide +kernel
theorem dX4_usedOn_25 : decode cX4_usedOn 25 = .ok (.ireturn, 1) := by decide +kernel
theorem dX4_workOnAllDays_0 : decode cX4_workOnAllDays 0 = .ok (.iconst 0, 1) := by decide +kernel
theorem dX4_workOnAllDays_1 : decode cX4_workOnAllDays 1 = .ok (.istore_n 2, 1) := by decide +kernel
theorem dX4_workOnAllDays_2 : decode cX4_workOnAllDays 2 = .ok (.iconst 0, 1) := by decide +kernel
theorem dX4_workOnAllDays_3 : decode cX4_workOnAllDays 3 = .ok (.istore_n 3, 1) := by decide +kernel
theorem dX4_workOnAllDays_4 : decode cX4_workOnAllDays 4 = .ok (.iload_n 3, 1) := by decide +kernel
theorem dX4_workOnAllDays_5 : decode cX4_workOnAllDays 5 = .ok (.sipush 138, 3) := by decide +kernel
theorem dX4_workOnAllDays_8 : decode cX4_workOnAllDays 8 = .ok (.if_icmp .ge 18, 3) := by decide +kernel
theorem dX4_workOnAllDays_11 : decode cX4_workOnAllDays 11 = .ok (.iload_n 2, 1) := by decide +kernel
theorem dX4_workOnAllDays_12 : decode cX4_workOnAllDays 12 = .ok (.aload_n 0, 1) := by decide +kernel
theorem dX4_workOnAllDays_13 : decode cX4_workOnAllDays 13 = .ok (.iload_n 1, 1) := by decide +kernel
theorem dX4_workOnAllDays_14 : decode cX4_workOnAllDays 14 = .ok (.iload_n 3, 1) := by decide +kernel
theorem dX4_workOnAllDays_15 : decode cX4_workOnAllDays 15 = .ok (.invokevirtual 56, 3) := by decide +kernel
theorem dX4_workOnAllDays_18 : decode cX4_workOnAllDays 18 = .ok (.iadd, 1) := by decide +kernel
theorem dX4_workOnAllDays_19 : decode cX4_workOnAllDays 19 = .ok (.istore_n 2, 1) := by decide +kernel
theorem dX4_workOnAllDays_20 : decode cX4_workOnAllDays 20 = .ok (.iinc 3 1, 3) := by decide +kernel
theorem dX4_workOnAllDays_23 : decode cX4_workOnAllDays 23 = .ok (.goto (-19), 3) := by decide +kernel
theorem dX4_workOnAllDays_26 : decode cX4_workOnAllDays 26 = .ok (.iload_n 2, 1) := by decide +kernel
theorem dX4_workOnAllDays_27 : decode cX4_workOnAllDays 27 = .ok (.ireturn, 1) := by decide +kernel
theorem dX4_findOrder_0 : decode cX4_findOrder 0 = .ok (.iconst 0, 1) := by decide +kernel
theorem dX4_findOrder_1 : decode cX4_findOrder 1 = .ok (.istore_n 2, 1) := by decide +kernel
theorem dX4_findOrder_2 : decode cX4_findOrder 2 = .ok (.iconst 0, 1) := by decide +kernel
theorem dX4_findOrder_3 : decode cX4_findOrder 3 = .ok (.istore_n 3, 1) := by decide +kernel
theorem dX4_findOrder_4 : decode cX4_findOrder 4 = .ok (.iload_n 3, 1) := by decide +kernel
theorem dX4_findOrder_5 : decode cX4_findOrder 5 = .ok (.aload_n 1, 1) := by decide +kernel
theorem dX4_findOrder_6 : decode cX4_findOrder 6 = .ok (.getfield 60, 3) := by decide +kernel
theorem dX4_findOrder_9 : decode cX4_findOrder 9 = .ok (.if_icmp .ge 54, 3) := by decide +kernel
theorem dX4_findOrder_12 : decode cX4_findOrder 12 = .ok (.iconst 0, 1) := by decide +kernel
theorem dX4_findOrder_13 : decode cX4_findOrder 13 = .ok (.istore 4, 2) := by decide +kernel
theorem dX4_findOrder_15 : decode cX4_findOrder 15 = .ok (.iload 4, 2) := by decide +kernel
theorem dX4_findOrder_17 : decode cX4_findOrder 17 = .ok (.aload_n 1, 1) := by decide +kernel
theorem dX4_findOrder_18 : decode cX4_findOrder 18 = .ok (.getfield 60, 3) := by decide +kernel
theorem dX4_findOrder_21 : decode cX4_findOrder 21 = .ok (.if_icmp .ge 19, 3) := by decide +kernel
theorem dX4_findOrder_24 : decode cX4_findOrder 24 = .ok (.aload_n 1, 1) := by decide +kernel
theorem dX4_findOrder_25 : decode cX4_findOrder 25 = .ok (.iload 4, 2) := by decide +kernel
theorem dX4_findOrder_27 : decode cX4_findOrder 27 = .ok (.iload_n 2, 1) := by decide +kernel
theorem dX4_findOrder_28 : decode cX4_findOrder 28 = .ok (.invokevirtual 66, 3) := by decide +kernel
theorem dX4_findOrder_31 : decode cX4_findOrder 31 = .ok (.ifCond .ne 9, 3) := by decide +kernel
theorem dX4_findOrder_34 : decode cX4_findOrder 34 = .ok (.iinc 4 1, 3) := by decide +kernel
theorem dX4_findOrder_37 : decode cX4_findOrder 37 = .ok (.goto (-22), 3) := by decide +kernel
theorem dX4_findOrder_40 : decode cX4_findOrder 40 = .ok (.aload_n 0, 1) := by decide +kernel
theorem dX4_findOrder_41 : decode cX4_findOrder 41 = .ok (.getfield 9, 3) := by decide +kernel
theorem dX4_findOrder_44 : decode cX4_findOrder 44 = .ok (.iload_n 3, 1) := by decide +kernel
theorem dX4_findOrder_45 : decode cX4_findOrder 45 = .ok (.iload 4, 2) := by decide +kernel
theorem dX4_findOrder_47 : decode cX4_findOrder 47 = .ok (.invokestatic 70, 3) := by decide +kernel
theorem dX4_findOrder_50 : decode cX4_findOrder 50 = .ok (.iload_n 2, 1) := by decide +kernel
theorem dX4_findOrder_51 : decode cX4_findOrder 51 = .ok (.iconst 1, 1) := by decide +kernel
theorem dX4_findOrder_52 : decode cX4_findOrder 52 = .ok (.iload 4, 2) := by decide +kernel
theorem dX4_findOrder_54 : decode cX4_findOrder 54 = .ok (.ishl, 1) := by decide +kernel
theorem dX4_findOrder_55 : decode cX4_findOrder 55 = .ok (.ior, 1) := by decide +kernel
theorem dX4_findOrder_56 : decode cX4_findOrder 56 = .ok (.istore_n 2, 1) := by decide +kernel
theorem dX4_findOrder_57 : decode cX4_findOrder 57 = .ok (.iinc 3 1, 3) := by decide +kernel
theorem dX4_findOrder_60 : decode cX4_findOrder 60 = .ok (.goto (-56), 3) := by decide +kernel
theorem dX4_findOrder_63 : decode cX4_findOrder 63 = .ok (.return_, 1) := by decide +kernel
theorem dX4_findClosure_0 : decode cX4_findClosure 0 = .ok (.aload_n 1, 1) := by decide +kernel
theorem dX4_findClosure_1 : decode cX4_findClosure 1 = .ok (.getfield 74, 3) := by decide +kernel
theorem dX4_findClosure_4 : decode cX4_findClosure 4 = .ok (.aload_n 0, 1) := by decide +kernel
theorem dX4_findClosure_5 : decode cX4_findClosure 5 = .ok (.getfield 15, 3) := by decide +kernel
theorem dX4_findClosure_8 : decode cX4_findClosure 8 = .ok (.invokestatic 77, 3) := by decide +kernel
theorem dX4_findClosure_11 : decode cX4_findClosure 11 = .ok (.iconst 0, 1) := by decide +kernel
theorem dX4_findClosure_12 : decode cX4_findClosure 12 = .ok (.istore_n 2, 1) := by decide +kernel
theorem dX4_findClosure_13 : decode cX4_findClosure 13 = .ok (.iload_n 2, 1) := by decide +kernel
theorem dX4_findClosure_14 : decode cX4_findClosure 14 = .ok (.aload_n 1, 1) := by decide +kernel
theorem dX4_findClosure_15 : decode cX4_findClosure 15 = .ok (.getfield 60, 3) := by decide +kernel
theorem dX4_findClosure_18 : decode cX4_findClosure 18 = .ok (.if_icmp .ge 65, 3) := by decide +kernel
theorem dX4_findClosure_21 : decode cX4_findClosure 21 = .ok (.iconst 0, 1) := by decide +kernel
theorem dX4_findClosure_22 : decode cX4_findClosure 22 = .ok (.istore_n 3, 1) := by decide +kernel
theorem dX4_findClosure_23 : decode cX4_findClosure 23 = .ok (.iload_n 3, 1) := by decide +kernel
theorem dX4_findClosure_24 : decode cX4_findClosure 24 = .ok (.aload_n 1, 1) := by decide +kernel
theorem dX4_findClosure_25 : decode cX4_findClosure 25 = .ok (.getfield 60, 3) := by decide +kernel
theorem dX4_findClosure_28 : decode cX4_findClosure 28 = .ok (.if_icmp .ge 49, 3) := by decide +kernel
theorem dX4_findClosure_31 : decode cX4_findClosure 31 = .ok (.aload_n 0, 1) := by decide +kernel
theorem dX4_findClosure_32 : decode cX4_findClosure 32 = .ok (.getfield 15, 3) := by decide +kernel
theorem dX4_findClosure_35 : decode cX4_findClosure 35 = .ok (.iload_n 3, 1) := by decide +kernel
theorem dX4_findClosure_36 : decode cX4_findClosure 36 = .ok (.invokestatic 52, 3) := by decide +kernel
theorem dX4_findClosure_39 : decode cX4_findClosure 39 = .ok (.iload_n 2, 1) := by decide +kernel
theorem dX4_findClosure_40 : decode cX4_findClosure 40 = .ok (.invokestatic 81, 3) := by decide +kernel
theorem dX4_findClosure_43 : decode cX4_findClosure 43 = .ok (.ifCond .eq 28, 3) := by decide +kernel
theorem dX4_findClosure_46 : decode cX4_findClosure 46 = .ok (.aload_n 0, 1) := by decide +kernel
theorem dX4_findClosure_47 : decode cX4_findClosure 47 = .ok (.getfield 15, 3) := by decide +kernel
theorem dX4_findClosure_50 : decode cX4_findClosure 50 = .ok (.iload_n 3, 1) := by decide +kernel
theorem dX4_findClosure_51 : decode cX4_findClosure 51 = .ok (.aload_n 0, 1) := by decide +kernel
theorem dX4_findClosure_52 : decode cX4_findClosure 52 = .ok (.getfield 15, 3) := by decide +kernel
theorem dX4_findClosure_55 : decode cX4_findClosure 55 = .ok (.iload_n 3, 1) := by decide +kernel
theorem dX4_findClosure_56 : decode cX4_findClosure 56 = .ok (.invokestatic 52, 3) := by decide +kernel
theorem dX4_findClosure_59 : decode cX4_findClosure 59 = .ok (.aload_n 0, 1) := by decide +kernel
theorem dX4_findClosure_60 : decode cX4_findClosure 60 = .ok (.getfield 15, 3) := by decide +kernel
theorem dX4_findClosure_63 : decode cX4_findClosure 63 = .ok (.iload_n 2, 1) := by decide +kernel
theorem dX4_findClosure_64 : decode cX4_findClosure 64 = .ok (.invokestatic 52, 3) := by decide +kernel
theorem dX4_findClosure_67 : decode cX4_findClosure 67 = .ok (.ior, 1) := by decide +kernel
theorem dX4_findClosure_68 : decode cX4_findClosure 68 = .ok (.invokestatic 70, 3) := by decide +kernel
theorem dX4_findClosure_71 : decode cX4_findClosure 71 = .ok (.iinc 3 1, 3) := by decide +kernel
theorem dX4_findClosure_74 : decode cX4_findClosure 74 = .ok (.goto (-51), 3) := by decide +kernel
theorem dX4_findClosure_77 : decode cX4_findClosure 77 = .ok (.iinc 2 1, 3) := by decide +kernel
theorem dX4_findClosure_80 : decode cX4_findClosure 80 = .ok (.goto (-67), 3) := by decide +kernel
theorem dX4_findClosure_83 : decode cX4_findClosure 83 = .ok (.return_, 1) := by decide +kernel
theorem dX4_findEarliest_0 : decode cX4_findEarliest 0 = .ok (.aload_n 0, 1) := by decide +kernel
theorem dX4_findEarliest_1 : decode cX4_findEarliest 1 = .ok (.getfield 18, 3) := by decide +kernel
theorem dX4_findEarliest_4 : decode cX4_findEarliest 4 = .ok (.iconst (-1), 1) := by decide +kernel
theorem dX4_findEarliest_5 : decode cX4_findEarliest 5 = .ok (.invokestatic 84, 3) := by decide +kernel
theorem dX4_findEarliest_8 : decode cX4_findEarliest 8 = .ok (.aload_n 0, 1) := by decide +kernel
theorem dX4_findEarliest_9 : decode cX4_findEarliest 9 = .ok (.iconst 0, 1) := by decide +kernel
theorem dX4_findEarliest_10 : decode cX4_findEarliest 10 = .ok (.putfield 88, 3) := by decide +kernel
theorem dX4_findEarliest_13 : decode cX4_findEarliest 13 = .ok (.iconst 0, 1) := by decide +kernel
theorem dX4_findEarliest_14 : decode cX4_findEarliest 14 = .ok (.istore_n 2, 1) := by decide +kernel
theorem dX4_findEarliest_15 : decode cX4_findEarliest 15 = .ok (.iload_n 2, 1) := by decide +kernel
theorem dX4_findEarliest_16 : decode cX4_findEarliest 16 = .ok (.aload_n 1, 1) := by decide +kernel
theorem dX4_findEarliest_17 : decode cX4_findEarliest 17 = .ok (.getfield 60, 3) := by decide +kernel
theorem dX4_findEarliest_20 : decode cX4_findEarliest 20 = .ok (.if_icmp .ge 41, 3) := by decide +kernel
theorem dX4_findEarliest_23 : decode cX4_findEarliest 23 = .ok (.aload_n 1, 1) := by decide +kernel
theorem dX4_findEarliest_24 : decode cX4_findEarliest 24 = .ok (.aload_n 0, 1) := by decide +kernel
theorem dX4_findEarliest_25 : decode cX4_findEarliest 25 = .ok (.getfield 18, 3) := by decide +kernel
theorem dX4_findEarliest_28 : decode cX4_findEarliest 28 = .ok (.iload_n 2, 1) := by decide +kernel
theorem dX4_findEarliest_29 : decode cX4_findEarliest 29 = .ok (.iconst 0, 1) := by decide +kernel
theorem dX4_findEarliest_30 : decode cX4_findEarliest 30 = .ok (.invokestatic 91, 3) := by decide +kernel
theorem dX4_findEarliest_33 : decode cX4_findEarliest 33 = .ok (.istore_n 3, 1) := by decide +kernel
theorem dX4_findEarliest_34 : decode cX4_findEarliest 34 = .ok (.aload_n 0, 1) := by decide +kernel
theorem dX4_findEarliest_35 : decode cX4_findEarliest 35 = .ok (.aload_n 0, 1) := by decide +kernel
theorem dX4_findEarliest_36 : decode cX4_findEarliest 36 = .ok (.getfield 88, 3) := by decide +kernel
theorem dX4_findEarliest_39 : decode cX4_findEarliest 39 = .ok (.iload_n 3, 1) := by decide +kernel
theorem dX4_findEarliest_40 : decode cX4_findEarliest 40 = .ok (.aload_n 1, 1) := by decide +kernel
theorem dX4_findEarliest_41 : decode cX4_findEarliest 41 = .ok (.getfield 95, 3) := by decide +kernel
theorem dX4_findEarliest_44 : decode cX4_findEarliest 44 = .ok (.iload_n 2, 1) := by decide +kernel
theorem dX4_findEarliest_45 : decode cX4_findEarliest 45 = .ok (.invokestatic 52, 3) := by decide +kernel
theorem dX4_findEarliest_48 : decode cX4_findEarliest 48 = .ok (.iadd, 1) := by decide +kernel
theorem dX4_findEarliest_49 : decode cX4_findEarliest 49 = .ok (.invokestatic 98, 3) := by decide +kernel
theorem dX4_findEarliest_52 : decode cX4_findEarliest 52 = .ok (.putfield 88, 3) := by decide +kernel
theorem dX4_findEarliest_55 : decode cX4_findEarliest 55 = .ok (.iinc 2 1, 3) := by decide +kernel
theorem dX4_findEarliest_58 : decode cX4_findEarliest 58 = .ok (.goto (-43), 3) := by decide +kernel
theorem dX4_findEarliest_61 : decode cX4_findEarliest 61 = .ok (.return_, 1) := by decide +kernel
theorem dX4_earliestOf_0 : decode cX4_earliestOf 0 = .ok (.aload_n 1, 1) := by decide +kernel
theorem dX4_earliestOf_1 : decode cX4_earliestOf 1 = .ok (.iload_n 2, 1) := by decide +kernel
theorem dX4_earliestOf_2 : decode cX4_earliestOf 2 = .ok (.invokestatic 52, 3) := by decide +kernel
theorem dX4_earliestOf_5 : decode cX4_earliestOf 5 = .ok (.istore 4, 2) := by decide +kernel
theorem dX4_earliestOf_7 : decode cX4_earliestOf 7 = .ok (.iload 4, 2) := by decide +kernel
theorem dX4_earliestOf_9 : decode cX4_earliestOf 9 = .ok (.iconst (-1), 1) := by decide +kernel
theorem dX4_earliestOf_10 : decode cX4_earliestOf 10 = .ok (.if_icmp .ne 9, 3) := by decide +kernel
theorem dX4_earliestOf_13 : decode cX4_earliestOf 13 = .ok (.iload_n 3, 1) := by decide +kernel
theorem dX4_earliestOf_14 : decode cX4_earliestOf 14 = .ok (.bipush 12, 2) := by decide +kernel
theorem dX4_earliestOf_16 : decode cX4_earliestOf 16 = .ok (.if_icmp .le 6, 3) := by decide +kernel
theorem dX4_earliestOf_19 : decode cX4_earliestOf 19 = .ok (.iload 4, 2) := by decide +kernel
theorem dX4_earliestOf_21 : decode cX4_earliestOf 21 = .ok (.ireturn, 1) := by decide +kernel
theorem dX4_earliestOf_22 : decode cX4_earliestOf 22 = .ok (.aload_n 0, 1) := by decide +kernel
theorem dX4_earliestOf_23 : decode cX4_earliestOf 23 = .ok (.getfield 103, 3) := by decide +kernel
theorem dX4_earliestOf_26 : decode cX4_earliestOf 26 = .ok (.iload_n 2, 1) := by decide +kernel
theorem dX4_earliestOf_27 : decode cX4_earliestOf 27 = .ok (.invokestatic 52, 3) := by decide +kernel
theorem dX4_earliestOf_30 : decode cX4_earliestOf 30 = .ok (.istore 4, 2) := by decide +kernel
theorem dX4_earliestOf_32 : decode cX4_earliestOf 32 = .ok (.aload_n 0, 1) := by decide +kernel
theorem dX4_earliestOf_33 : decode cX4_earliestOf 33 = .ok (.getfield 74, 3) := by decide +kernel
theorem dX4_earliestOf_36 : decode cX4_earliestOf 36 = .ok (.iload_n 2, 1) := by decide +kernel
theorem dX4_earliestOf_37 : decode cX4_earliestOf 37 = .ok (.invokestatic 52, 3) := by decide +kernel
theorem dX4_earliestOf_40 : decode cX4_earliestOf 40 = .ok (.istore 5, 2) := by decide +kernel
theorem dX4_earliestOf_42 : decode cX4_earliestOf 42 = .ok (.iconst 0, 1) := by decide +kernel
theorem dX4_earliestOf_43 : decode cX4_earliestOf 43 = .ok (.istore 6, 2) := by decide +kernel
theorem dX4_earliestOf_45 : decode cX4_earliestOf 45 = .ok (.iload 6, 2) := by decide +kernel
theorem dX4_earliestOf_47 : decode cX4_earliestOf 47 = .ok (.aload_n 0, 1) := by decide +kernel
theorem dX4_earliestOf_48 : decode cX4_earliestOf 48 = .ok (.getfield 60, 3) := by decide +kernel
theorem dX4_earliestOf_51 : decode cX4_earliestOf 51 = .ok (.if_icmp .ge 50, 3) := by decide +kernel
theorem dX4_earliestOf_54 : decode cX4_earliestOf 54 = .ok (.iload 5, 2) := by decide +kernel
theorem dX4_earliestOf_56 : decode cX4_earliestOf 56 = .ok (.iload 6, 2) := by decide +kernel
theorem dX4_earliestOf_58 : decode cX4_earliestOf 58 = .ok (.invokestatic 81, 3) := by decide +kernel
theorem dX4_earliestOf_61 : decode cX4_earliestOf 61 = .ok (.ifCond .eq 34, 3) := by decide +kernel
theorem dX4_earliestOf_64 : decode cX4_earliestOf 64 = .ok (.aload_n 0, 1) := by decide +kernel
theorem dX4_earliestOf_65 : decode cX4_earliestOf 65 = .ok (.aload_n 1, 1) := by decide +kernel
theorem dX4_earliestOf_66 : decode cX4_earliestOf 66 = .ok (.iload 6, 2) := by decide +kernel
theorem dX4_earliestOf_68 : decode cX4_earliestOf 68 = .ok (.iload_n 3, 1) := by decide +kernel
theorem dX4_earliestOf_69 : decode cX4_earliestOf 69 = .ok (.iconst 1, 1) := by decide +kernel
theorem dX4_earliestOf_70 : decode cX4_earliestOf 70 = .ok (.iadd, 1) := by decide +kernel
theorem dX4_earliestOf_71 : decode cX4_earliestOf 71 = .ok (.invokestatic 91, 3) := by decide +kernel
theorem dX4_earliestOf_74 : decode cX4_earliestOf 74 = .ok (.aload_n 0, 1) := by decide +kernel
theorem dX4_earliestOf_75 : decode cX4_earliestOf 75 = .ok (.getfield 95, 3) := by decide +kernel
theorem dX4_earliestOf_78 : decode cX4_earliestOf 78 = .ok (.iload 6, 2) := by decide +kernel
theorem dX4_earliestOf_80 : decode cX4_earliestOf 80 = .ok (.invokestatic 52, 3) := by decide +kernel
theorem dX4_earliestOf_83 : decode cX4_earliestOf 83 = .ok (.iadd, 1) := by decide +kernel
theorem dX4_earliestOf_84 : decode cX4_earliestOf 84 = .ok (.istore 7, 2) := by decide +kernel
theorem dX4_earliestOf_86 : decode cX4_earliestOf 86 = .ok (.iload 4, 2) := by decide +kernel
theorem dX4_earliestOf_88 : decode cX4_earliestOf 88 = .ok (.iload 7, 2) := by decide +kernel
theorem dX4_earliestOf_90 : decode cX4_earliestOf 90 = .ok (.invokestatic 98, 3) := by decide +kernel
theorem dX4_earliestOf_93 : decode cX4_earliestOf 93 = .ok (.istore 4, 2) := by decide +kernel
theorem dX4_earliestOf_95 : decode cX4_earliestOf 95 = .ok (.iinc 6 1, 3) := by decide +kernel
theorem dX4_earliestOf_98 : decode cX4_earliestOf 98 = .ok (.goto (-53), 3) := by decide +kernel
theorem dX4_earliestOf_101 : decode cX4_earliestOf 101 = .ok (.aload_n 1, 1) := by decide +kernel
theorem dX4_earliestOf_102 : decode cX4_earliestOf 102 = .ok (.iload_n 2, 1) := by decide +kernel
theorem dX4_earliestOf_103 : decode cX4_earliestOf 103 = .ok (.iload 4, 2) := by decide +kernel
theorem dX4_earliestOf_105 : decode cX4_earliestOf 105 = .ok (.invokestatic 70, 3) := by decide +kernel
theorem dX4_earliestOf_108 : decode cX4_earliestOf 108 = .ok (.iload 4, 2) := by decide +kernel
theorem dX4_earliestOf_110 : decode cX4_earliestOf 110 = .ok (.ireturn, 1) := by decide +kernel
theorem dX4_findImproved_0 : decode cX4_findImproved 0 = .ok (.aload_n 1, 1) := by decide +kernel
theorem dX4_findImproved_1 : decode cX4_findImproved 1 = .ok (.getfield 103, 3) := by decide +kernel
theorem dX4_findImproved_4 : decode cX4_findImproved 4 = .ok (.aload_n 0, 1) := by decide +kernel
theorem dX4_findImproved_5 : decode cX4_findImproved 5 = .ok (.getfield 21, 3) := by decide +kernel
theorem dX4_findImproved_8 : decode cX4_findImproved 8 = .ok (.invokestatic 77, 3) := by decide +kernel
theorem dX4_findImproved_11 : decode cX4_findImproved 11 = .ok (.iconst 1, 1) := by decide +kernel
theorem dX4_findImproved_12 : decode cX4_findImproved 12 = .ok (.istore_n 2, 1) := by decide +kernel
theorem dX4_findImproved_13 : decode cX4_findImproved 13 = .ok (.iconst 0, 1) := by decide +kernel
theorem dX4_findImproved_14 : decode cX4_findImproved 14 = .ok (.istore_n 3, 1) := by decide +kernel
theorem dX4_findImproved_15 : decode cX4_findImproved 15 = .ok (.iload_n 2, 1) := by decide +kernel
theorem dX4_findImproved_16 : decode cX4_findImproved 16 = .ok (.ifCond .eq 21, 3) := by decide +kernel
theorem dX4_findImproved_19 : decode cX4_findImproved 19 = .ok (.iload_n 3, 1) := by decide +kernel
theorem dX4_findImproved_20 : decode cX4_findImproved 20 = .ok (.bipush 12, 2) := by decide +kernel
theorem dX4_findImproved_22 : decode cX4_findImproved 22 = .ok (.if_icmp .ge 15, 3) := by decide +kernel
theorem dX4_findImproved_25 : decode cX4_findImproved 25 = .ok (.aload_n 0, 1) := by decide +kernel
theorem dX4_findImproved_26 : decode cX4_findImproved 26 = .ok (.aload_n 1, 1) := by decide +kernel
theorem dX4_findImproved_27 : decode cX4_findImproved 27 = .ok (.invokevirtual 106, 3) := by decide +kernel
theorem dX4_findImproved_30 : decode cX4_findImproved 30 = .ok (.istore_n 2, 1) := by decide +kernel
theorem dX4_findImproved_31 : decode cX4_findImproved 31 = .ok (.iinc 3 1, 3) := by decide +kernel
theorem dX4_findImproved_34 : decode cX4_findImproved 34 = .ok (.goto (-19), 3) := by decide +kernel
theorem dX4_findImproved_37 : decode cX4_findImproved 37 = .ok (.return_, 1) := by decide +kernel
theorem dX4_improve_0 : decode cX4_improve 0 = .ok (.iconst 0, 1) := by decide +kernel
theorem dX4_improve_1 : decode cX4_improve 1 = .ok (.istore_n 2, 1) := by decide +kernel
theorem dX4_improve_2 : decode cX4_improve 2 = .ok (.iconst 0, 1) := by decide +kernel
theorem dX4_improve_3 : decode cX4_improve 3 = .ok (.istore_n 3, 1) := by decide +kernel
theorem dX4_improve_4 : decode cX4_improve 4 = .ok (.iload_n 3, 1) := by decide +kernel
theorem dX4_improve_5 : decode cX4_improve 5 = .ok (.aload_n 1, 1) := by decide +kernel
theorem dX4_improve_6 : decode cX4_improve 6 = .ok (.getfield 60, 3) := by decide +kernel
theorem dX4_improve_9 : decode cX4_improve 9 = .ok (.if_icmp .ge 45, 3) := by decide +kernel
theorem dX4_improve_12 : decode cX4_improve 12 = .ok (.aload_n 1, 1) := by decide +kernel
theorem dX4_improve_13 : decode cX4_improve 13 = .ok (.iload_n 3, 1) := by decide +kernel
theorem dX4_improve_14 : decode cX4_improve 14 = .ok (.aload_n 0, 1) := by decide +kernel
theorem dX4_improve_15 : decode cX4_improve 15 = .ok (.getfield 21, 3) := by decide +kernel
theorem dX4_improve_18 : decode cX4_improve 18 = .ok (.invokestatic 110, 3) := by decide +kernel
theorem dX4_improve_21 : decode cX4_improve 21 = .ok (.istore 4, 2) := by decide +kernel
theorem dX4_improve_23 : decode cX4_improve 23 = .ok (.iload 4, 2) := by decide +kernel
theorem dX4_improve_25 : decode cX4_improve 25 = .ok (.aload_n 0, 1) := by decide +kernel
theorem dX4_improve_26 : decode cX4_improve 26 = .ok (.getfield 21, 3) := by decide +kernel
theorem dX4_improve_29 : decode cX4_improve 29 = .ok (.iload_n 3, 1) := by decide +kernel
theorem dX4_improve_30 : decode cX4_improve 30 = .ok (.invokestatic 52, 3) := by decide +kernel
theorem dX4_improve_33 : decode cX4_improve 33 = .ok (.if_icmp .le 15, 3) := by decide +kernel
theorem dX4_improve_36 : decode cX4_improve 36 = .ok (.aload_n 0, 1) := by decide +kernel
theorem dX4_improve_37 : decode cX4_improve 37 = .ok (.getfield 21, 3) := by decide +kernel
theorem dX4_improve_40 : decode cX4_improve 40 = .ok (.iload_n 3, 1) := by decide +kernel
theorem dX4_improve_41 : decode cX4_improve 41 = .ok (.iload 4, 2) := by decide +kernel
theorem dX4_improve_43 : decode cX4_improve 43 = .ok (.invokestatic 70, 3) := by decide +kernel
theorem dX4_improve_46 : decode cX4_improve 46 = .ok (.iconst 1, 1) := by decide +kernel
theorem dX4_improve_47 : decode cX4_improve 47 = .ok (.istore_n 2, 1) := by decide +kernel
theorem dX4_improve_48 : decode cX4_improve 48 = .ok (.iinc 3 1, 3) := by decide +kernel
theorem dX4_improve_51 : decode cX4_improve 51 = .ok (.goto (-47), 3) := by decide +kernel
theorem dX4_improve_54 : decode cX4_improve 54 = .ok (.iload_n 2, 1) := by decide +kernel
theorem dX4_improve_55 : decode cX4_improve 55 = .ok (.ireturn, 1) := by decide +kernel
theorem dX4_soonestStart_0 : decode cX4_soonestStart 0 = .ok (.aload_n 0, 1) := by decide +kernel
theorem dX4_soonestStart_1 : decode cX4_soonestStart 1 = .ok (.getfield 103, 3) := by decide +kernel
theorem dX4_soonestStart_4 : decode cX4_soonestStart 4 = .ok (.iload_n 1, 1) := by decide +kernel
theorem dX4_soonestStart_5 : decode cX4_soonestStart 5 = .ok (.invokestatic 52, 3) := by decide +kernel
theorem dX4_soonestStart_8 : decode cX4_soonestStart 8 = .ok (.istore_n 3, 1) := by decide +kernel
theorem dX4_soonestStart_9 : decode cX4_soonestStart 9 = .ok (.aload_n 0, 1) := by decide +kernel
theorem dX4_soonestStart_10 : decode cX4_soonestStart 10 = .ok (.getfield 74, 3) := by decide +kernel
theorem dX4_soonestStart_13 : decode cX4_soonestStart 13 = .ok (.iload_n 1, 1) := by decide +kernel
theorem dX4_soonestStart_14 : decode cX4_soonestStart 14 = .ok (.invokestatic 52, 3) := by decide +kernel
theorem dX4_soonestStart_17 : decode cX4_soonestStart 17 = .ok (.istore 4, 2) := by decide +kernel
theorem dX4_soonestStart_19 : decode cX4_soonestStart 19 = .ok (.iconst 0, 1) := by decide +kernel
theorem dX4_soonestStart_20 : decode cX4_soonestStart 20 = .ok (.istore 5, 2) := by decide +kernel
theorem dX4_soonestStart_22 : decode cX4_soonestStart 22 = .ok (.iload 5, 2) := by decide +kernel
theorem dX4_soonestStart_24 : decode cX4_soonestStart 24 = .ok (.aload_n 0, 1) := by decide +kernel
theorem dX4_soonestStart_25 : decode cX4_soonestStart 25 = .ok (.getfield 60, 3) := by decide +kernel
theorem dX4_soonestStart_28 : decode cX4_soonestStart 28 = .ok (.if_icmp .ge 40, 3) := by decide +kernel
theorem dX4_soonestStart_31 : decode cX4_soonestStart 31 = .ok (.iload 4, 2) := by decide +kernel
theorem dX4_soonestStart_33 : decode cX4_soonestStart 33 = .ok (.iload 5, 2) := by decide +kernel
theorem dX4_soonestStart_35 : decode cX4_soonestStart 35 = .ok (.invokestatic 81, 3) := by decide +kernel
theorem dX4_soonestStart_38 : decode cX4_soonestStart 38 = .ok (.ifCond .eq 24, 3) := by decide +kernel
theorem dX4_soonestStart_41 : decode cX4_soonestStart 41 = .ok (.iload_n 3, 1) := by decide +kernel
theorem dX4_soonestStart_42 : decode cX4_soonestStart 42 = .ok (.aload_n 2, 1) := by decide +kernel
theorem dX4_soonestStart_43 : decode cX4_soonestStart 43 = .ok (.iload 5, 2) := by decide +kernel
theorem dX4_soonestStart_45 : decode cX4_soonestStart 45 = .ok (.invokestatic 52, 3) := by decide +kernel
theorem dX4_soonestStart_48 : decode cX4_soonestStart 48 = .ok (.aload_n 0, 1) := by decide +kernel
theorem dX4_soonestStart_49 : decode cX4_soonestStart 49 = .ok (.getfield 95, 3) := by decide +kernel
theorem dX4_soonestStart_52 : decode cX4_soonestStart 52 = .ok (.iload 5, 2) := by decide +kernel
theorem dX4_soonestStart_54 : decode cX4_soonestStart 54 = .ok (.invokestatic 52, 3) := by decide +kernel
theorem dX4_soonestStart_57 : decode cX4_soonestStart 57 = .ok (.iadd, 1) := by decide +kernel
theorem dX4_soonestStart_58 : decode cX4_soonestStart 58 = .ok (.invokestatic 98, 3) := by decide +kernel
theorem dX4_soonestStart_61 : decode cX4_soonestStart 61 = .ok (.istore_n 3, 1) := by decide +kernel
theorem dX4_soonestStart_62 : decode cX4_soonestStart 62 = .ok (.iinc 5 1, 3) := by decide +kernel
theorem dX4_soonestStart_65 : decode cX4_soonestStart 65 = .ok (.goto (-43), 3) := by decide +kernel
theorem dX4_soonestStart_68 : decode cX4_soonestStart 68 = .ok (.iload_n 3, 1) := by decide +kernel
theorem dX4_soonestStart_69 : decode cX4_soonestStart 69 = .ok (.ireturn, 1) := by decide +kernel
theorem dX4_findLatest_0 : decode cX4_findLatest 0 = .ok (.aload_n 1, 1) := by decide +kernel
theorem dX4_findLatest_1 : decode cX4_findLatest 1 = .ok (.getfield 60, 3) := by decide +kernel
theorem dX4_findLatest_4 : decode cX4_findLatest 4 = .ok (.iconst 1, 1) := by decide +kernel
theorem dX4_findLatest_5 : decode cX4_findLatest 5 = .ok (.isub, 1) := by decide +kernel
theorem dX4_findLatest_6 : decode cX4_findLatest 6 = .ok (.istore_n 2, 1) := by decide +kernel
theorem dX4_findLatest_7 : decode cX4_findLatest 7 = .ok (.iload_n 2, 1) := by decide +kernel
theorem dX4_findLatest_8 : decode cX4_findLatest 8 = .ok (.ifCond .lt 87, 3) := by decide +kernel
theorem dX4_findLatest_11 : decode cX4_findLatest 11 = .ok (.aload_n 0, 1) := by decide +kernel
theorem dX4_findLatest_12 : decode cX4_findLatest 12 = .ok (.getfield 9, 3) := by decide +kernel
theorem dX4_findLatest_15 : decode cX4_findLatest 15 = .ok (.iload_n 2, 1) := by decide +kernel
theorem dX4_findLatest_16 : decode cX4_findLatest 16 = .ok (.invokestatic 52, 3) := by decide +kernel
theorem dX4_findLatest_19 : decode cX4_findLatest 19 = .ok (.istore_n 3, 1) := by decide +kernel
theorem dX4_findLatest_20 : decode cX4_findLatest 20 = .ok (.aload_n 0, 1) := by decide +kernel
theorem dX4_findLatest_21 : decode cX4_findLatest 21 = .ok (.getfield 88, 3) := by decide +kernel
theorem dX4_findLatest_24 : decode cX4_findLatest 24 = .ok (.istore 4, 2) := by decide +kernel
theorem dX4_findLatest_26 : decode cX4_findLatest 26 = .ok (.iconst 0, 1) := by decide +kernel
theorem dX4_findLatest_27 : decode cX4_findLatest 27 = .ok (.istore 5, 2) := by decide +kernel
theorem dX4_findLatest_29 : decode cX4_findLatest 29 = .ok (.iload 5, 2) := by decide +kernel
theorem dX4_findLatest_31 : decode cX4_findLatest 31 = .ok (.aload_n 1, 1) := by decide +kernel
theorem dX4_findLatest_32 : decode cX4_findLatest 32 = .ok (.getfield 60, 3) := by decide +kernel
theorem dX4_findLatest_35 : decode cX4_findLatest 35 = .ok (.if_icmp .ge 35, 3) := by decide +kernel
theorem dX4_findLatest_38 : decode cX4_findLatest 38 = .ok (.aload_n 1, 1) := by decide +kernel
theorem dX4_findLatest_39 : decode cX4_findLatest 39 = .ok (.iload 5, 2) := by decide +kernel
theorem dX4_findLatest_41 : decode cX4_findLatest 41 = .ok (.iload_n 3, 1) := by decide +kernel
theorem dX4_findLatest_42 : decode cX4_findLatest 42 = .ok (.invokevirtual 114, 3) := by decide +kernel
theorem dX4_findLatest_45 : decode cX4_findLatest 45 = .ok (.ifCond .eq 19, 3) := by decide +kernel
theorem dX4_findLatest_48 : decode cX4_findLatest 48 = .ok (.iload 4, 2) := by decide +kernel
theorem dX4_findLatest_50 : decode cX4_findLatest 50 = .ok (.aload_n 0, 1) := by decide +kernel
theorem dX4_findLatest_51 : decode cX4_findLatest 51 = .ok (.getfield 24, 3) := by decide +kernel
theorem dX4_findLatest_54 : decode cX4_findLatest 54 = .ok (.iload 5, 2) := by decide +kernel
theorem dX4_findLatest_56 : decode cX4_findLatest 56 = .ok (.invokestatic 52, 3) := by decide +kernel
theorem dX4_findLatest_59 : decode cX4_findLatest 59 = .ok (.invokestatic 117, 3) := by decide +kernel
theorem dX4_findLatest_62 : decode cX4_findLatest 62 = .ok (.istore 4, 2) := by decide +kernel
theorem dX4_findLatest_64 : decode cX4_findLatest 64 = .ok (.iinc 5 1, 3) := by decide +kernel
theorem dX4_findLatest_67 : decode cX4_findLatest 67 = .ok (.goto (-38), 3) := by decide +kernel
theorem dX4_findLatest_70 : decode cX4_findLatest 70 = .ok (.aload_n 0, 1) := by decide +kernel
theorem dX4_findLatest_71 : decode cX4_findLatest 71 = .ok (.getfield 24, 3) := by decide +kernel
theorem dX4_findLatest_74 : decode cX4_findLatest 74 = .ok (.iload_n 3, 1) := by decide +kernel
theorem dX4_findLatest_75 : decode cX4_findLatest 75 = .ok (.iload 4, 2) := by decide +kernel
theorem dX4_findLatest_77 : decode cX4_findLatest 77 = .ok (.aload_n 1, 1) := by decide +kernel
theorem dX4_findLatest_78 : decode cX4_findLatest 78 = .ok (.getfield 95, 3) := by decide +kernel
theorem dX4_findLatest_81 : decode cX4_findLatest 81 = .ok (.iload_n 3, 1) := by decide +kernel
theorem dX4_findLatest_82 : decode cX4_findLatest 82 = .ok (.invokestatic 52, 3) := by decide +kernel
theorem dX4_findLatest_85 : decode cX4_findLatest 85 = .ok (.isub, 1) := by decide +kernel
theorem dX4_findLatest_86 : decode cX4_findLatest 86 = .ok (.invokestatic 70, 3) := by decide +kernel
theorem dX4_findLatest_89 : decode cX4_findLatest 89 = .ok (.iinc 2 (-1), 3) := by decide +kernel
theorem dX4_findLatest_92 : decode cX4_findLatest 92 = .ok (.goto (-85), 3) := by decide +kernel
theorem dX4_findLatest_95 : decode cX4_findLatest 95 = .ok (.return_, 1) := by decide +kernel
theorem dX4_findLevelled_0 : decode cX4_findLevelled 0 = .ok (.aload_n 0, 1) := by decide +kernel
theorem dX4_findLevelled_1 : decode cX4_findLevelled 1 = .ok (.getfield 30, 3) := by decide +kernel
theorem dX4_findLevelled_4 : decode cX4_findLevelled 4 = .ok (.iconst 0, 1) := by decide +kernel
theorem dX4_findLevelled_5 : decode cX4_findLevelled 5 = .ok (.invokestatic 84, 3) := by decide +kernel
theorem dX4_findLevelled_8 : decode cX4_findLevelled 8 = .ok (.aload_n 0, 1) := by decide +kernel
theorem dX4_findLevelled_9 : decode cX4_findLevelled 9 = .ok (.iconst 0, 1) := by decide +kernel
theorem dX4_findLevelled_10 : decode cX4_findLevelled 10 = .ok (.putfield 120, 3) := by decide +kernel
theorem dX4_findLevelled_13 : decode cX4_findLevelled 13 = .ok (.iconst 0, 1) := by decide +kernel
theorem dX4_findLevelled_14 : decode cX4_findLevelled 14 = .ok (.istore_n 2, 1) := by decide +kernel
theorem dX4_findLevelled_15 : decode cX4_findLevelled 15 = .ok (.iconst 0, 1) := by decide +kernel
theorem dX4_findLevelled_16 : decode cX4_findLevelled 16 = .ok (.istore_n 3, 1) := by decide +kernel
theorem dX4_findLevelled_17 : decode cX4_findLevelled 17 = .ok (.iload_n 3, 1) := by decide +kernel
theorem dX4_findLevelled_18 : decode cX4_findLevelled 18 = .ok (.aload_n 1, 1) := by decide +kernel
theorem dX4_findLevelled_19 : decode cX4_findLevelled 19 = .ok (.getfield 60, 3) := by decide +kernel
theorem dX4_findLevelled_22 : decode cX4_findLevelled 22 = .ok (.if_icmp .ge 38, 3) := by decide +kernel
theorem dX4_findLevelled_25 : decode cX4_findLevelled 25 = .ok (.aload_n 0, 1) := by decide +kernel
theorem dX4_findLevelled_26 : decode cX4_findLevelled 26 = .ok (.aload_n 1, 1) := by decide +kernel
theorem dX4_findLevelled_27 : decode cX4_findLevelled 27 = .ok (.iload_n 2, 1) := by decide +kernel
theorem dX4_findLevelled_28 : decode cX4_findLevelled 28 = .ok (.invokevirtual 123, 3) := by decide +kernel
theorem dX4_findLevelled_31 : decode cX4_findLevelled 31 = .ok (.istore 4, 2) := by decide +kernel
theorem dX4_findLevelled_33 : decode cX4_findLevelled 33 = .ok (.aload_n 0, 1) := by decide +kernel
theorem dX4_findLevelled_34 : decode cX4_findLevelled 34 = .ok (.aload_n 1, 1) := by decide +kernel
theorem dX4_findLevelled_35 : decode cX4_findLevelled 35 = .ok (.iload 4, 2) := by decide +kernel
theorem dX4_findLevelled_37 : decode cX4_findLevelled 37 = .ok (.aload_n 0, 1) := by decide +kernel
theorem dX4_findLevelled_38 : decode cX4_findLevelled 38 = .ok (.aload_n 1, 1) := by decide +kernel
theorem dX4_findLevelled_39 : decode cX4_findLevelled 39 = .ok (.iload 4, 2) := by decide +kernel
theorem dX4_findLevelled_41 : decode cX4_findLevelled 41 = .ok (.invokevirtual 127, 3) := by decide +kernel
theorem dX4_findLevelled_44 : decode cX4_findLevelled 44 = .ok (.invokevirtual 130, 3) := by decide +kernel
theorem dX4_findLevelled_47 : decode cX4_findLevelled 47 = .ok (.iload_n 2, 1) := by decide +kernel
theorem dX4_findLevelled_48 : decode cX4_findLevelled 48 = .ok (.iconst 1, 1) := by decide +kernel
theorem dX4_findLevelled_49 : decode cX4_findLevelled 49 = .ok (.iload 4, 2) := by decide +kernel
theorem dX4_findLevelled_51 : decode cX4_findLevelled 51 = .ok (.ishl, 1) := by decide +kernel
theorem dX4_findLevelled_52 : decode cX4_findLevelled 52 = .ok (.ior, 1) := by decide +kernel
theorem dX4_findLevelled_53 : decode cX4_findLevelled 53 = .ok (.istore_n 2, 1) := by decide +kernel
theorem dX4_findLevelled_54 : decode cX4_findLevelled 54 = .ok (.iinc 3 1, 3) := by decide +kernel
theorem dX4_findLevelled_57 : decode cX4_findLevelled 57 = .ok (.goto (-40), 3) := by decide +kernel
theorem dX4_findLevelled_60 : decode cX4_findLevelled 60 = .ok (.return_, 1) := by decide +kernel
theorem dX4_mostUrgent_0 : decode cX4_mostUrgent 0 = .ok (.iconst (-1), 1) := by decide +kernel
theorem dX4_mostUrgent_1 : decode cX4_mostUrgent 1 = .ok (.istore_n 3, 1) := by decide +kernel
theorem dX4_mostUrgent_2 : decode cX4_mostUrgent 2 = .ok (.iconst 0, 1) := by decide +kernel
theorem dX4_mostUrgent_3 : decode cX4_mostUrgent 3 = .ok (.istore 4, 2) := by decide +kernel
theorem dX4_mostUrgent_5 : decode cX4_mostUrgent 5 = .ok (.iload 4, 2) := by decide +kernel
theorem dX4_mostUrgent_7 : decode cX4_mostUrgent 7 = .ok (.aload_n 1, 1) := by decide +kernel
theorem dX4_mostUrgent_8 : decode cX4_mostUrgent 8 = .ok (.getfield 60, 3) := by decide +kernel
theorem dX4_mostUrgent_11 : decode cX4_mostUrgent 11 = .ok (.if_icmp .ge 51, 3) := by decide +kernel
theorem dX4_mostUrgent_14 : decode cX4_mostUrgent 14 = .ok (.aload_n 1, 1) := by decide +kernel
theorem dX4_mostUrgent_15 : decode cX4_mostUrgent 15 = .ok (.iload 4, 2) := by decide +kernel
theorem dX4_mostUrgent_17 : decode cX4_mostUrgent 17 = .ok (.iload_n 2, 1) := by decide +kernel
theorem dX4_mostUrgent_18 : decode cX4_mostUrgent 18 = .ok (.invokevirtual 66, 3) := by decide +kernel
theorem dX4_mostUrgent_21 : decode cX4_mostUrgent 21 = .ok (.istore 5, 2) := by decide +kernel
theorem dX4_mostUrgent_23 : decode cX4_mostUrgent 23 = .ok (.iload 5, 2) := by decide +kernel
theorem dX4_mostUrgent_25 : decode cX4_mostUrgent 25 = .ok (.ifCond .eq 31, 3) := by decide +kernel
theorem dX4_mostUrgent_28 : decode cX4_mostUrgent 28 = .ok (.iload_n 3, 1) := by decide +kernel
theorem dX4_mostUrgent_29 : decode cX4_mostUrgent 29 = .ok (.iconst (-1), 1) := by decide +kernel
theorem dX4_mostUrgent_30 : decode cX4_mostUrgent 30 = .ok (.if_icmp .eq 23, 3) := by decide +kernel
theorem dX4_mostUrgent_33 : decode cX4_mostUrgent 33 = .ok (.aload_n 0, 1) := by decide +kernel
theorem dX4_mostUrgent_34 : decode cX4_mostUrgent 34 = .ok (.getfield 24, 3) := by decide +kernel
theorem dX4_mostUrgent_37 : decode cX4_mostUrgent 37 = .ok (.iload 4, 2) := by decide +kernel
theorem dX4_mostUrgent_39 : decode cX4_mostUrgent 39 = .ok (.invokestatic 52, 3) := by decide +kernel
theorem dX4_mostUrgent_42 : decode cX4_mostUrgent 42 = .ok (.aload_n 0, 1) := by decide +kernel
theorem dX4_mostUrgent_43 : decode cX4_mostUrgent 43 = .ok (.getfield 24, 3) := by decide +kernel
theorem dX4_mostUrgent_46 : decode cX4_mostUrgent 46 = .ok (.iload_n 3, 1) := by decide +kernel
theorem dX4_mostUrgent_47 : decode cX4_mostUrgent 47 = .ok (.invokestatic 52, 3) := by decide +kernel
theorem dX4_mostUrgent_50 : decode cX4_mostUrgent 50 = .ok (.if_icmp .ge 6, 3) := by decide +kernel
theorem dX4_mostUrgent_53 : decode cX4_mostUrgent 53 = .ok (.iload 4, 2) := by decide +kernel
theorem dX4_mostUrgent_55 : decode cX4_mostUrgent 55 = .ok (.istore_n 3, 1) := by decide +kernel
theorem dX4_mostUrgent_56 : decode cX4_mostUrgent 56 = .ok (.iinc 4 1, 3) := by decide +kernel
theorem dX4_mostUrgent_59 : decode cX4_mostUrgent 59 = .ok (.goto (-54), 3) := by decide +kernel
theorem dX4_mostUrgent_62 : decode cX4_mostUrgent 62 = .ok (.iload_n 3, 1) := by decide +kernel
theorem dX4_mostUrgent_63 : decode cX4_mostUrgent 63 = .ok (.ireturn, 1) := by decide +kernel
theorem dX4_lowestFit_0 : decode cX4_lowestFit 0 = .ok (.aload_n 1, 1) := by decide +kernel
theorem dX4_lowestFit_1 : decode cX4_lowestFit 1 = .ok (.iload_n 2, 1) := by decide +kernel
theorem dX4_lowestFit_2 : decode cX4_lowestFit 2 = .ok (.aload_n 0, 1) := by decide +kernel
theorem dX4_lowestFit_3 : decode cX4_lowestFit 3 = .ok (.getfield 27, 3) := by decide +kernel
theorem dX4_lowestFit_6 : decode cX4_lowestFit 6 = .ok (.invokestatic 110, 3) := by decide +kernel
theorem dX4_lowestFit_9 : decode cX4_lowestFit 9 = .ok (.istore_n 3, 1) := by decide +kernel
theorem dX4_lowestFit_10 : decode cX4_lowestFit 10 = .ok (.iload_n 3, 1) := by decide +kernel
theorem dX4_lowestFit_11 : decode cX4_lowestFit 11 = .ok (.sipush 138, 3) := by decide +kernel
theorem dX4_lowestFit_14 : decode cX4_lowestFit 14 = .ok (.if_icmp .ge 19, 3) := by decide +kernel
theorem dX4_lowestFit_17 : decode cX4_lowestFit 17 = .ok (.aload_n 0, 1) := by decide +kernel
theorem dX4_lowestFit_18 : decode cX4_lowestFit 18 = .ok (.aload_n 1, 1) := by decide +kernel
theorem dX4_lowestFit_19 : decode cX4_lowestFit 19 = .ok (.iload_n 2, 1) := by decide +kernel
theorem dX4_lowestFit_20 : decode cX4_lowestFit 20 = .ok (.iload_n 3, 1) := by decide +kernel
theorem dX4_lowestFit_21 : decode cX4_lowestFit 21 = .ok (.invokevirtual 134, 3) := by decide +kernel
theorem dX4_lowestFit_24 : decode cX4_lowestFit 24 = .ok (.ifCond .ne 9, 3) := by decide +kernel
theorem dX4_lowestFit_27 : decode cX4_lowestFit 27 = .ok (.iinc 3 1, 3) := by decide +kernel
theorem dX4_lowestFit_30 : decode cX4_lowestFit 30 = .ok (.goto (-20), 3) := by decide +kernel
theorem dX4_lowestFit_33 : decode cX4_lowestFit 33 = .ok (.iload_n 3, 1) := by decide +kernel
theorem dX4_lowestFit_34 : decode cX4_lowestFit 34 = .ok (.ireturn, 1) := by decide +kernel
theorem dX4_fits_0 : decode cX4_fits 0 = .ok (.aload_n 1, 1) := by decide +kernel
theorem dX4_fits_1 : decode cX4_fits 1 = .ok (.getfield 138, 3) := by decide +kernel
theorem dX4_fits_4 : decode cX4_fits 4 = .ok (.iload_n 2, 1) := by decide +kernel
theorem dX4_fits_5 : decode cX4_fits 5 = .ok (.invokestatic 52, 3) := by decide +kernel
theorem dX4_fits_8 : decode cX4_fits 8 = .ok (.istore 4, 2) := by decide +kernel
theorem dX4_fits_10 : decode cX4_fits 10 = .ok (.iload 4, 2) := by decide +kernel
theorem dX4_fits_12 : decode cX4_fits 12 = .ok (.sipush 138, 3) := by decide +kernel
theorem dX4_fits_15 : decode cX4_fits 15 = .ok (.imul, 1) := by decide +kernel
theorem dX4_fits_16 : decode cX4_fits 16 = .ok (.istore 5, 2) := by decide +kernel
theorem dX4_fits_18 : decode cX4_fits 18 = .ok (.aload_n 1, 1) := by decide +kernel
theorem dX4_fits_19 : decode cX4_fits 19 = .ok (.getfield 141, 3) := by decide +kernel
theorem dX4_fits_22 : decode cX4_fits 22 = .ok (.iload 4, 2) := by decide +kernel
theorem dX4_fits_24 : decode cX4_fits 24 = .ok (.invokestatic 52, 3) := by decide +kernel
theorem dX4_fits_27 : decode cX4_fits 27 = .ok (.aload_n 1, 1) := by decide +kernel
theorem dX4_fits_28 : decode cX4_fits 28 = .ok (.getfield 144, 3) := by decide +kernel
theorem dX4_fits_31 : decode cX4_fits 31 = .ok (.iload_n 2, 1) := by decide +kernel
theorem dX4_fits_32 : decode cX4_fits 32 = .ok (.invokestatic 52, 3) := by decide +kernel
theorem dX4_fits_35 : decode cX4_fits 35 = .ok (.isub, 1) := by decide +kernel
theorem dX4_fits_36 : decode cX4_fits 36 = .ok (.istore 6, 2) := by decide +kernel
theorem dX4_fits_38 : decode cX4_fits 38 = .ok (.iload_n 3, 1) := by decide +kernel
theorem dX4_fits_39 : decode cX4_fits 39 = .ok (.aload_n 1, 1) := by decide +kernel
theorem dX4_fits_40 : decode cX4_fits 40 = .ok (.getfield 95, 3) := by decide +kernel
theorem dX4_fits_43 : decode cX4_fits 43 = .ok (.iload_n 2, 1) := by decide +kernel
theorem dX4_fits_44 : decode cX4_fits 44 = .ok (.invokestatic 52, 3) := by decide +kernel
theorem dX4_fits_47 : decode cX4_fits 47 = .ok (.iadd, 1) := by decide +kernel
theorem dX4_fits_48 : decode cX4_fits 48 = .ok (.istore 7, 2) := by decide +kernel
theorem dX4_fits_50 : decode cX4_fits 50 = .ok (.iload_n 3, 1) := by decide +kernel
theorem dX4_fits_51 : decode cX4_fits 51 = .ok (.istore 8, 2) := by decide +kernel
theorem dX4_fits_53 : decode cX4_fits 53 = .ok (.iload 8, 2) := by decide +kernel
theorem dX4_fits_55 : decode cX4_fits 55 = .ok (.iload 7, 2) := by decide +kernel
theorem dX4_fits_57 : decode cX4_fits 57 = .ok (.if_icmp .ge 28, 3) := by decide +kernel
theorem dX4_fits_60 : decode cX4_fits 60 = .ok (.aload_n 0, 1) := by decide +kernel
theorem dX4_fits_61 : decode cX4_fits 61 = .ok (.getfield 30, 3) := by decide +kernel
theorem dX4_fits_64 : decode cX4_fits 64 = .ok (.iload 5, 2) := by decide +kernel
theorem dX4_fits_66 : decode cX4_fits 66 = .ok (.iload 8, 2) := by decide +kernel
theorem dX4_fits_68 : decode cX4_fits 68 = .ok (.iadd, 1) := by decide +kernel
theorem dX4_fits_69 : decode cX4_fits 69 = .ok (.invokestatic 52, 3) := by decide +kernel
theorem dX4_fits_72 : decode cX4_fits 72 = .ok (.iload 6, 2) := by decide +kernel
theorem dX4_fits_74 : decode cX4_fits 74 = .ok (.if_icmp .le 5, 3) := by decide +kernel
theorem dX4_fits_77 : decode cX4_fits 77 = .ok (.iconst 0, 1) := by decide +kernel
theorem dX4_fits_78 : decode cX4_fits 78 = .ok (.ireturn, 1) := by decide +kernel
theorem dX4_fits_79 : decode cX4_fits 79 = .ok (.iinc 8 1, 3) := by decide +kernel
theorem dX4_fits_82 : decode cX4_fits 82 = .ok (.goto (-29), 3) := by decide +kernel
theorem dX4_fits_85 : decode cX4_fits 85 = .ok (.iconst 1, 1) := by decide +kernel
theorem dX4_fits_86 : decode cX4_fits 86 = .ok (.ireturn, 1) := by decide +kernel
theorem dX4_place_0 : decode cX4_place 0 = .ok (.aload_n 0, 1) := by decide +kernel
theorem dX4_place_1 : decode cX4_place 1 = .ok (.getfield 27, 3) := by decide +kernel
theorem dX4_place_4 : decode cX4_place 4 = .ok (.iload_n 2, 1) := by decide +kernel
theorem dX4_place_5 : decode cX4_place 5 = .ok (.iload_n 3, 1) := by decide +kernel
theorem dX4_place_6 : decode cX4_place 6 = .ok (.invokestatic 70, 3) := by decide +kernel
theorem dX4_place_9 : decode cX4_place 9 = .ok (.aload_n 1, 1) := by decide +kernel
theorem dX4_place_10 : decode cX4_place 10 = .ok (.getfield 138, 3) := by decide +kernel
theorem dX4_place_13 : decode cX4_place 13 = .ok (.iload_n 2, 1) := by decide +kernel
theorem dX4_place_14 : decode cX4_place 14 = .ok (.invokestatic 52, 3) := by decide +kernel
theorem dX4_place_17 : decode cX4_place 17 = .ok (.sipush 138, 3) := by decide +kernel
theorem dX4_place_20 : decode cX4_place 20 = .ok (.imul, 1) := by decide +kernel
theorem dX4_place_21 : decode cX4_place 21 = .ok (.istore 4, 2) := by decide +kernel
theorem dX4_place_23 : decode cX4_place 23 = .ok (.iload_n 3, 1) := by decide +kernel
theorem dX4_place_24 : decode cX4_place 24 = .ok (.aload_n 1, 1) := by decide +kernel
theorem dX4_place_25 : decode cX4_place 25 = .ok (.getfield 95, 3) := by decide +kernel
theorem dX4_place_28 : decode cX4_place 28 = .ok (.iload_n 2, 1) := by decide +kernel
theorem dX4_place_29 : decode cX4_place 29 = .ok (.invokestatic 52, 3) := by decide +kernel
theorem dX4_place_32 : decode cX4_place 32 = .ok (.iadd, 1) := by decide +kernel
theorem dX4_place_33 : decode cX4_place 33 = .ok (.istore 5, 2) := by decide +kernel
theorem dX4_place_35 : decode cX4_place 35 = .ok (.iload_n 3, 1) := by decide +kernel
theorem dX4_place_36 : decode cX4_place 36 = .ok (.istore 6, 2) := by decide +kernel
theorem dX4_place_38 : decode cX4_place 38 = .ok (.iload 6, 2) := by decide +kernel
theorem dX4_place_40 : decode cX4_place 40 = .ok (.iload 5, 2) := by decide +kernel
theorem dX4_place_42 : decode cX4_place 42 = .ok (.if_icmp .ge 42, 3) := by decide +kernel
theorem dX4_place_45 : decode cX4_place 45 = .ok (.aload_n 0, 1) := by decide +kernel
theorem dX4_place_46 : decode cX4_place 46 = .ok (.getfield 30, 3) := by decide +kernel
theorem dX4_place_49 : decode cX4_place 49 = .ok (.iload 4, 2) := by decide +kernel
theorem dX4_place_51 : decode cX4_place 51 = .ok (.iload 6, 2) := by decide +kernel
theorem dX4_place_53 : decode cX4_place 53 = .ok (.iadd, 1) := by decide +kernel
theorem dX4_place_54 : decode cX4_place 54 = .ok (.aload_n 0, 1) := by decide +kernel
theorem dX4_place_55 : decode cX4_place 55 = .ok (.getfield 30, 3) := by decide +kernel
theorem dX4_place_58 : decode cX4_place 58 = .ok (.iload 4, 2) := by decide +kernel
theorem dX4_place_60 : decode cX4_place 60 = .ok (.iload 6, 2) := by decide +kernel
theorem dX4_place_62 : decode cX4_place 62 = .ok (.iadd, 1) := by decide +kernel
theorem dX4_place_63 : decode cX4_place 63 = .ok (.invokestatic 52, 3) := by decide +kernel
theorem dX4_place_66 : decode cX4_place 66 = .ok (.aload_n 1, 1) := by decide +kernel
theorem dX4_place_67 : decode cX4_place 67 = .ok (.getfield 144, 3) := by decide +kernel
theorem dX4_place_70 : decode cX4_place 70 = .ok (.iload_n 2, 1) := by decide +kernel
theorem dX4_place_71 : decode cX4_place 71 = .ok (.invokestatic 52, 3) := by decide +kernel
theorem dX4_place_74 : decode cX4_place 74 = .ok (.iadd, 1) := by decide +kernel
theorem dX4_place_75 : decode cX4_place 75 = .ok (.invokestatic 70, 3) := by decide +kernel
theorem dX4_place_78 : decode cX4_place 78 = .ok (.iinc 6 1, 3) := by decide +kernel
theorem dX4_place_81 : decode cX4_place 81 = .ok (.goto (-43), 3) := by decide +kernel
theorem dX4_place_84 : decode cX4_place 84 = .ok (.aload_n 0, 1) := by decide +kernel
theorem dX4_place_85 : decode cX4_place 85 = .ok (.aload_n 0, 1) := by decide +kernel
theorem dX4_place_86 : decode cX4_place 86 = .ok (.getfield 120, 3) := by decide +kernel
theorem dX4_place_89 : decode cX4_place 89 = .ok (.iload 5, 2) := by decide +kernel
theorem dX4_place_91 : decode cX4_place 91 = .ok (.invokestatic 98, 3) := by decide +kernel
theorem dX4_place_94 : decode cX4_place 94 = .ok (.putfield 120, 3) := by decide +kernel
theorem dX4_place_97 : decode cX4_place 97 = .ok (.return_, 1) := by decide +kernel
theorem dX5_init_0 : decode cX5_init 0 = .ok (.aload_n 0, 1) := by decide +kernel
theorem dX5_init_1 : decode cX5_init 1 = .ok (.invokespecial 3, 3) := by decide +kernel
theorem dX5_init_4 : decode cX5_init 4 = .ok (.aload_n 0, 1) := by decide +kernel
theorem dX5_init_5 : decode cX5_init 5 = .ok (.bipush 12, 2) := by decide +kernel
theorem dX5_init_7 : decode cX5_init 7 = .ok (.newarray .int, 2) := by decide +kernel
theorem dX5_init_9 : decode cX5_init 9 = .ok (.putfield 9, 3) := by decide +kernel
theorem dX5_init_12 : decode cX5_init 12 = .ok (.aload_n 0, 1) := by decide +kernel
theorem dX5_init_13 : decode cX5_init 13 = .ok (.bipush 12, 2) := by decide +kernel
theorem dX5_init_15 : decode cX5_init 15 = .ok (.newarray .int, 2) := by decide +kernel
theorem dX5_init_17 : decode cX5_init 17 = .ok (.putfield 15, 3) := by decide +kernel
theorem dX5_init_20 : decode cX5_init 20 = .ok (.aload_n 0, 1) := by decide +kernel
theorem dX5_init_21 : decode cX5_init 21 = .ok (.bipush 12, 2) := by decide +kernel
theorem dX5_init_23 : decode cX5_init 23 = .ok (.newarray .int, 2) := by decide +kernel
theorem dX5_init_25 : decode cX5_init 25 = .ok (.putfield 18, 3) := by decide +kernel
theorem dX5_init_28 : decode cX5_init 28 = .ok (.aload_n 0, 1) := by decide +kernel
theorem dX5_init_29 : decode cX5_init 29 = .ok (.bipush 12, 2) := by decide +kernel
theorem dX5_init_31 : decode cX5_init 31 = .ok (.newarray .int, 2) := by decide +kernel
theorem dX5_init_33 : decode cX5_init 33 = .ok (.putfield 21, 3) := by decide +kernel
theorem dX5_init_36 : decode cX5_init 36 = .ok (.aload_n 0, 1) := by decide +kernel
theorem dX5_init_37 : decode cX5_init 37 = .ok (.bipush 12, 2) := by decide +kernel
theorem dX5_init_39 : decode cX5_init 39 = .ok (.newarray .int, 2) := by decide +kernel
theorem dX5_init_41 : decode cX5_init 41 = .ok (.putfield 24, 3) := by decide +kernel
theorem dX5_init_44 : decode cX5_init 44 = .ok (.aload_n 0, 1) := by decide +kernel
theorem dX5_init_45 : decode cX5_init 45 = .ok (.bipush 12, 2) := by decide +kernel
theorem dX5_init_47 : decode cX5_init 47 = .ok (.newarray .int, 2) := by decide +kernel
theorem dX5_init_49 : decode cX5_init 49 = .ok (.putfield 27, 3) := by decide +kernel
theorem dX5_init_52 : decode cX5_init 52 = .ok (.aload_n 0, 1) := by decide +kernel
theorem dX5_init_53 : decode cX5_init 53 = .ok (.iconst 3, 1) := by decide +kernel
theorem dX5_init_54 : decode cX5_init 54 = .ok (.newarray .int, 2) := by decide +kernel
theorem dX5_init_56 : decode cX5_init 56 = .ok (.putfield 30, 3) := by decide +kernel
theorem dX5_init_59 : decode cX5_init 59 = .ok (.aload_n 0, 1) := by decide +kernel
theorem dX5_init_60 : decode cX5_init 60 = .ok (.getfield 30, 3) := by decide +kernel
theorem dX5_init_63 : decode cX5_init 63 = .ok (.bipush 10, 2) := by decide +kernel
theorem dX5_init_65 : decode cX5_init 65 = .ok (.invokestatic 33, 3) := by decide +kernel
theorem dX5_init_68 : decode cX5_init 68 = .ok (.return_, 1) := by decide +kernel
theorem dX5_copyFrom_0 : decode cX5_copyFrom 0 = .ok (.aload_n 1, 1) := by decide +kernel
theorem dX5_copyFrom_1 : decode cX5_copyFrom 1 = .ok (.getfield 9, 3) := by decide +kernel
theorem dX5_copyFrom_4 : decode cX5_copyFrom 4 = .ok (.aload_n 0, 1) := by decide +kernel
theorem dX5_copyFrom_5 : decode cX5_copyFrom 5 = .ok (.getfield 9, 3) := by decide +kernel
theorem dX5_copyFrom_8 : decode cX5_copyFrom 8 = .ok (.invokestatic 37, 3) := by decide +kernel
theorem dX5_copyFrom_11 : decode cX5_copyFrom 11 = .ok (.aload_n 1, 1) := by decide +kernel
theorem dX5_copyFrom_12 : decode cX5_copyFrom 12 = .ok (.getfield 15, 3) := by decide +kernel
theorem dX5_copyFrom_15 : decode cX5_copyFrom 15 = .ok (.aload_n 0, 1) := by decide +kernel
theorem dX5_copyFrom_16 : decode cX5_copyFrom 16 = .ok (.getfield 15, 3) := by decide +kernel
theorem dX5_copyFrom_19 : decode cX5_copyFrom 19 = .ok (.invokestatic 37, 3) := by decide +kernel
theorem dX5_copyFrom_22 : decode cX5_copyFrom 22 = .ok (.aload_n 1, 1) := by decide +kernel
theorem dX5_copyFrom_23 : decode cX5_copyFrom 23 = .ok (.getfield 18, 3) := by decide +kernel
theorem dX5_copyFrom_26 : decode cX5_copyFrom 26 = .ok (.aload_n 0, 1) := by decide +kernel
theorem dX5_copyFrom_27 : decode cX5_copyFrom 27 = .ok (.getfield 18, 3) := by decide +kernel
theorem dX5_copyFrom_30 : decode cX5_copyFrom 30 = .ok (.invokestatic 37, 3) := by decide +kernel
theorem dX5_copyFrom_33 : decode cX5_copyFrom 33 = .ok (.aload_n 1, 1) := by decide +kernel
theorem dX5_copyFrom_34 : decode cX5_copyFrom 34 = .ok (.getfield 21, 3) := by decide +kernel
theorem dX5_copyFrom_37 : decode cX5_copyFrom 37 = .ok (.aload_n 0, 1) := by decide +kernel
theorem dX5_copyFrom_38 : decode cX5_copyFrom 38 = .ok (.getfield 21, 3) := by decide +kernel
theorem dX5_copyFrom_41 : decode cX5_copyFrom 41 = .ok (.invokestatic 37, 3) := by decide +kernel
theorem dX5_copyFrom_44 : decode cX5_copyFrom 44 = .ok (.aload_n 1, 1) := by decide +kernel
theorem dX5_copyFrom_45 : decode cX5_copyFrom 45 = .ok (.getfield 24, 3) := by decide +kernel
theorem dX5_copyFrom_48 : decode cX5_copyFrom 48 = .ok (.aload_n 0, 1) := by decide +kernel
theorem dX5_copyFrom_49 : decode cX5_copyFrom 49 = .ok (.getfield 24, 3) := by decide +kernel
theorem dX5_copyFrom_52 : decode cX5_copyFrom 52 = .ok (.invokestatic 37, 3) := by decide +kernel
theorem dX5_copyFrom_55 : decode cX5_copyFrom 55 = .ok (.aload_n 1, 1) := by decide +kernel
theorem dX5_copyFrom_56 : decode cX5_copyFrom 56 = .ok (.getfield 27, 3) := by decide +kernel
theorem dX5_copyFrom_59 : decode cX5_copyFrom 59 = .ok (.aload_n 0, 1) := by decide +kernel
theorem dX5_copyFrom_60 : decode cX5_copyFrom 60 = .ok (.getfield 27, 3) := by decide +kernel
theorem dX5_copyFrom_63 : decode cX5_copyFrom 63 = .ok (.invokestatic 37, 3) := by decide +kernel
theorem dX5_copyFrom_66 : decode cX5_copyFrom 66 = .ok (.aload_n 1, 1) := by decide +kernel
theorem dX5_copyFrom_67 : decode cX5_copyFrom 67 = .ok (.getfield 30, 3) := by decide +kernel
theorem dX5_copyFrom_70 : decode cX5_copyFrom 70 = .ok (.aload_n 0, 1) := by decide +kernel
theorem dX5_copyFrom_71 : decode cX5_copyFrom 71 = .ok (.getfield 30, 3) := by decide +kernel
theorem dX5_copyFrom_74 : decode cX5_copyFrom 74 = .ok (.invokestatic 37, 3) := by decide +kernel
theorem dX5_copyFrom_77 : decode cX5_copyFrom 77 = .ok (.aload_n 0, 1) := by decide +kernel
theorem dX5_copyFrom_78 : decode cX5_copyFrom 78 = .ok (.aload_n 1, 1) := by decide +kernel
theorem dX5_copyFrom_79 : decode cX5_copyFrom 79 = .ok (.getfield 41, 3) := by decide +kernel
theorem dX5_copyFrom_82 : decode cX5_copyFrom 82 = .ok (.putfield 41, 3) := by decide +kernel
theorem dX5_copyFrom_85 : decode cX5_copyFrom 85 = .ok (.aload_n 0, 1) := by decide +kernel
theorem dX5_copyFrom_86 : decode cX5_copyFrom 86 = .ok (.aload_n 1, 1) := by decide +kernel
theorem dX5_copyFrom_87 : decode cX5_copyFrom 87 = .ok (.getfield 45, 3) := by decide +kernel
theorem dX5_copyFrom_90 : decode cX5_copyFrom 90 = .ok (.putfield 45, 3) := by decide +kernel
theorem dX5_copyFrom_93 : decode cX5_copyFrom 93 = .ok (.return_, 1) := by decide +kernel
theorem dX5_faultOfTask_0 : decode cX5_faultOfTask 0 = .ok (.iload_n 1, 1) := by decide +kernel
theorem dX5_faultOfTask_1 : decode cX5_faultOfTask 1 = .ok (.iconst 0, 1) := by decide +kernel
theorem dX5_faultOfTask_2 : decode cX5_faultOfTask 2 = .ok (.aload_n 0, 1) := by decide +kernel
theorem dX5_faultOfTask_3 : decode cX5_faultOfTask 3 = .ok (.getfield 41, 3) := by decide +kernel
theorem dX5_faultOfTask_6 : decode cX5_faultOfTask 6 = .ok (.iconst 1, 1) := by decide +kernel
theorem dX5_faultOfTask_7 : decode cX5_faultOfTask 7 = .ok (.isub, 1) := by decide +kernel
theorem dX5_faultOfTask_8 : decode cX5_faultOfTask 8 = .ok (.invokestatic 49, 3) := by decide +kernel
theorem dX5_faultOfTask_11 : decode cX5_faultOfTask 11 = .ok (.ifCond .eq 8, 3) := by decide +kernel
theorem dX5_faultOfTask_14 : decode cX5_faultOfTask 14 = .ok (.bipush 46, 2) := by decide +kernel
theorem dX5_faultOfTask_16 : decode cX5_faultOfTask 16 = .ok (.goto 5, 3) := by decide +kernel
theorem dX5_faultOfTask_19 : decode cX5_faultOfTask 19 = .ok (.bipush 105, 2) := by decide +kernel
theorem dX5_faultOfTask_21 : decode cX5_faultOfTask 21 = .ok (.ireturn, 1) := by decide +kernel
theorem dX5_faultOfPair_0 : decode cX5_faultOfPair 0 = .ok (.aload_n 0, 1) := by decide +kernel
theorem dX5_faultOfPair_1 : decode cX5_faultOfPair 1 = .ok (.iload_n 1, 1) := by decide +kernel
theorem dX5_faultOfPair_2 : decode cX5_faultOfPair 2 = .ok (.invokevirtual 53, 3) := by decide +kernel
theorem dX5_faultOfPair_5 : decode cX5_faultOfPair 5 = .ok (.bipush 46, 2) := by decide +kernel
theorem dX5_faultOfPair_7 : decode cX5_faultOfPair 7 = .ok (.if_icmp .ne 11, 3) := by decide +kernel
theorem dX5_faultOfPair_10 : decode cX5_faultOfPair 10 = .ok (.aload_n 0, 1) := by decide +kernel
theorem dX5_faultOfPair_11 : decode cX5_faultOfPair 11 = .ok (.iload_n 2, 1) := by decide +kernel
theorem dX5_faultOfPair_12 : decode cX5_faultOfPair 12 = .ok (.invokevirtual 53, 3) := by decide +kernel
theorem dX5_faultOfPair_15 : decode cX5_faultOfPair 15 = .ok (.goto 5, 3) := by decide +kernel
theorem dX5_faultOfPair_18 : decode cX5_faultOfPair 18 = .ok (.bipush 105, 2) := by decide +kernel
theorem dX5_faultOfPair_20 : decode cX5_faultOfPair 20 = .ok (.ireturn, 1) := by decide +kernel
theorem dX5_faultOfAdding_0 : decode cX5_faultOfAdding 0 = .ok (.iload_n 1, 1) := by decide +kernel
theorem dX5_faultOfAdding_1 : decode cX5_faultOfAdding 1 = .ok (.iconst 1, 1) := by decide +kernel
theorem dX5_faultOfAdding_2 : decode cX5_faultOfAdding 2 = .ok (.bipush 9, 2) := by decide +kernel
theorem dX5_faultOfAdding_4 : decode cX5_faultOfAdding 4 = .ok (.invokestatic 49, 3) := by decide +kernel
theorem dX5_faultOfAdding_7 : decode cX5_faultOfAdding 7 = .ok (.ifCond .eq 36, 3) := by decide +kernel
theorem dX5_faultOfAdding_10 : decode cX5_faultOfAdding 10 = .ok (.iload_n 2, 1) := by decide +kernel
theorem dX5_faultOfAdding_11 : decode cX5_faultOfAdding 11 = .ok (.iconst 0, 1) := by decide +kernel
theorem dX5_faultOfAdding_12 : decode cX5_faultOfAdding 12 = .ok (.iconst 2, 1) := by decide +kernel
theorem dX5_faultOfAdding_13 : decode cX5_faultOfAdding 13 = .ok (.invokestatic 49, 3) := by decide +kernel
theorem dX5_faultOfAdding_16 : decode cX5_faultOfAdding 16 = .ok (.ifCond .eq 27, 3) := by decide +kernel
theorem dX5_faultOfAdding_19 : decode cX5_faultOfAdding 19 = .ok (.iload_n 3, 1) := by decide +kernel
theorem dX5_faultOfAdding_20 : decode cX5_faultOfAdding 20 = .ok (.iconst 1, 1) := by decide +kernel
theorem dX5_faultOfAdding_21 : decode cX5_faultOfAdding 21 = .ok (.iconst 5, 1) := by decide +kernel
theorem dX5_faultOfAdding_22 : decode cX5_faultOfAdding 22 = .ok (.invokestatic 49, 3) := by decide +kernel
theorem dX5_faultOfAdding_25 : decode cX5_faultOfAdding 25 = .ok (.ifCond .eq 18, 3) := by decide +kernel
theorem dX5_faultOfAdding_28 : decode cX5_faultOfAdding 28 = .ok (.iload 4, 2) := by decide +kernel
theorem dX5_faultOfAdding_30 : decode cX5_faultOfAdding 30 = .ok (.iconst 0, 1) := by decide +kernel
theorem dX5_faultOfAdding_31 : decode cX5_faultOfAdding 31 = .ok (.bipush 30, 2) := by decide +kernel
theorem dX5_faultOfAdding_33 : decode cX5_faultOfAdding 33 = .ok (.invokestatic 49, 3) := by decide +kernel
theorem dX5_faultOfAdding_36 : decode cX5_faultOfAdding 36 = .ok (.ifCond .eq 7, 3) := by decide +kernel
theorem dX5_faultOfAdding_39 : decode cX5_faultOfAdding 39 = .ok (.iconst 1, 1) := by decide +kernel
theorem dX5_faultOfAdding_40 : decode cX5_faultOfAdding 40 = .ok (.goto 4, 3) := by decide +kernel
theorem dX5_faultOfAdding_43 : decode cX5_faultOfAdding 43 = .ok (.iconst 0, 1) := by decide +kernel
theorem dX5_faultOfAdding_44 : decode cX5_faultOfAdding 44 = .ok (.istore 5, 2) := by decide +kernel
theorem dX5_faultOfAdding_46 : decode cX5_faultOfAdding 46 = .ok (.iload 5, 2) := by decide +kernel
theorem dX5_faultOfAdding_48 : decode cX5_faultOfAdding 48 = .ok (.ifCond .ne 6, 3) := by decide +kernel
theorem dX5_faultOfAdding_51 : decode cX5_faultOfAdding 51 = .ok (.bipush 97, 2) := by decide +kernel
theorem dX5_faultOfAdding_53 : decode cX5_faultOfAdding 53 = .ok (.ireturn, 1) := by decide +kernel
theorem dX5_faultOfAdding_54 : decode cX5_faultOfAdding 54 = .ok (.aload_n 0, 1) := by decide +kernel
theorem dX5_faultOfAdding_55 : decode cX5_faultOfAdding 55 = .ok (.getfield 41, 3) := by decide +kernel
theorem dX5_faultOfAdding_58 : decode cX5_faultOfAdding 58 = .ok (.bipush 12, 2) := by decide +kernel
theorem dX5_faultOfAdding_60 : decode cX5_faultOfAdding 60 = .ok (.if_icmp .ge 8, 3) := by decide +kernel
theorem dX5_faultOfAdding_63 : decode cX5_faultOfAdding 63 = .ok (.bipush 46, 2) := by decide +kernel
theorem dX5_faultOfAdding_65 : decode cX5_faultOfAdding 65 = .ok (.goto 5, 3) := by decide +kernel
theorem dX5_faultOfAdding_68 : decode cX5_faultOfAdding 68 = .ok (.bipush 115, 2) := by decide +kernel
theorem dX5_faultOfAdding_70 : decode cX5_faultOfAdding 70 = .ok (.ireturn, 1) := by decide +kernel
theorem dX5_faultOfLinking_0 : decode cX5_faultOfLinking 0 = .ok (.aload_n 0, 1) := by decide +kernel
theorem dX5_faultOfLinking_1 : decode cX5_faultOfLinking 1 = .ok (.iload_n 1, 1) := by decide +kernel
theorem dX5_faultOfLinking_2 : decode cX5_faultOfLinking 2 = .ok (.iload_n 2, 1) := by decide +kernel
theorem dX5_faultOfLinking_3 : decode cX5_faultOfLinking 3 = .ok (.invokevirtual 57, 3) := by decide +kernel
theorem dX5_faultOfLinking_6 : decode cX5_faultOfLinking 6 = .ok (.bipush 46, 2) := by decide +kernel
theorem dX5_faultOfLinking_8 : decode cX5_faultOfLinking 8 = .ok (.if_icmp .eq 6, 3) := by decide +kernel
theorem dX5_faultOfLinking_11 : decode cX5_faultOfLinking 11 = .ok (.bipush 105, 2) := by decide +kernel
theorem dX5_faultOfLinking_13 : decode cX5_faultOfLinking 13 = .ok (.ireturn, 1) := by decide +kernel
theorem dX5_faultOfLinking_14 : decode cX5_faultOfLinking 14 = .ok (.iload_n 1, 1) := by decide +kernel
theorem dX5_faultOfLinking_15 : decode cX5_faultOfLinking 15 = .ok (.iload_n 2, 1) := by decide +kernel
theorem dX5_faultOfLinking_16 : decode cX5_faultOfLinking 16 = .ok (.if_icmp .ne 6, 3) := by decide +kernel
theorem dX5_faultOfLinking_19 : decode cX5_faultOfLinking 19 = .ok (.bipush 97, 2) := by decide +kernel
theorem dX5_faultOfLinking_21 : decode cX5_faultOfLinking 21 = .ok (.ireturn, 1) := by decide +kernel
theorem dX5_faultOfLinking_22 : decode cX5_faultOfLinking 22 = .ok (.aload_n 0, 1) := by decide +kernel
theorem dX5_faultOfLinking_23 : decode cX5_faultOfLinking 23 = .ok (.iload_n 2, 1) := by decide +kernel
theorem dX5_faultOfLinking_24 : decode cX5_faultOfLinking 24 = .ok (.iload_n 1, 1) := by decide +kernel
theorem dX5_faultOfLinking_25 : decode cX5_faultOfLinking 25 = .ok (.invokevirtual 61, 3) := by decide +kernel
theorem dX5_faultOfLinking_28 : decode cX5_faultOfLinking 28 = .ok (.ifCond .eq 8, 3) := by decide +kernel
theorem dX5_faultOfLinking_31 : decode cX5_faultOfLinking 31 = .ok (.bipush 117, 2) := by decide +kernel
theorem dX5_faultOfLinking_33 : decode cX5_faultOfLinking 33 = .ok (.goto 5, 3) := by decide +kernel
theorem dX5_faultOfLinking_36 : decode cX5_faultOfLinking 36 = .ok (.bipush 46, 2) := by decide +kernel
theorem dX5_faultOfLinking_38 : decode cX5_faultOfLinking 38 = .ok (.ireturn, 1) := by decide +kernel
theorem dX5_faultOfDuration_0 : decode cX5_faultOfDuration 0 = .ok (.aload_n 0, 1) := by decide +kernel
theorem dX5_faultOfDuration_1 : decode cX5_faultOfDuration 1 = .ok (.iload_n 1, 1) := by decide +kernel
theorem dX5_faultOfDuration_2 : decode cX5_faultOfDuration 2 = .ok (.invokevirtual 53, 3) := by decide +kernel
theorem dX5_faultOfDuration_5 : decode cX5_faultOfDuration 5 = .ok (.bipush 46, 2) := by decide +kernel
theorem dX5_faultOfDuration_7 : decode cX5_faultOfDuration 7 = .ok (.if_icmp .eq 6, 3) := by decide +kernel
theorem dX5_faultOfDuration_10 : decode cX5_faultOfDuration 10 = .ok (.bipush 105, 2) := by decide +kernel
theorem dX5_faultOfDuration_12 : decode cX5_faultOfDuration 12 = .ok (.ireturn, 1) := by decide +kernel
theorem dX5_faultOfDuration_13 : decode cX5_faultOfDuration 13 = .ok (.iload_n 2, 1) := by decide +kernel
theorem dX5_faultOfDuration_14 : decode cX5_faultOfDuration 14 = .ok (.iconst 1, 1) := by decide +kernel
theorem dX5_faultOfDuration_15 : decode cX5_faultOfDuration 15 = .ok (.bipush 9, 2) := by decide +kernel
theorem dX5_faultOfDuration_17 : decode cX5_faultOfDuration 17 = .ok (.invokestatic 49, 3) := by decide +kernel
theorem dX5_faultOfDuration_20 : decode cX5_faultOfDuration 20 = .ok (.ifCond .eq 8, 3) := by decide +kernel
theorem dX5_faultOfDuration_23 : decode cX5_faultOfDuration 23 = .ok (.bipush 46, 2) := by decide +kernel
theorem dX5_faultOfDuration_25 : decode cX5_faultOfDuration 25 = .ok (.goto 5, 3) := by decide +kernel
theorem dX5_faultOfDuration_28 : decode cX5_faultOfDuration 28 = .ok (.bipush 97, 2) := by decide +kernel
theorem dX5_faultOfDuration_30 : decode cX5_faultOfDuration 30 = .ok (.ireturn, 1) := by decide +kernel
theorem dX5_faultOfRelease_0 : decode cX5_faultOfRelease 0 = .ok (.aload_n 0, 1) := by decide +kernel
theorem dX5_faultOfRelease_1 : decode cX5_faultOfRelease 1 = .ok (.iload_n 1, 1) := by decide +kernel
theorem dX5_faultOfRelease_2 : decode cX5_faultOfRelease 2 = .ok (.invokevirtual 53, 3) := by decide +kernel
theorem dX5_faultOfRelease_5 : decode cX5_faultOfRelease 5 = .ok (.bipush 46, 2) := by decide +kernel
theorem dX5_faultOfRelease_7 : decode cX5_faultOfRelease 7 = .ok (.if_icmp .eq 6, 3) := by decide +kernel
theorem dX5_faultOfRelease_10 : decode cX5_faultOfRelease 10 = .ok (.bipush 105, 2) := by decide +kernel
theorem dX5_faultOfRelease_12 : decode cX5_faultOfRelease 12 = .ok (.ireturn, 1) := by decide +kernel
theorem dX5_faultOfRelease_13 : decode cX5_faultOfRelease 13 = .ok (.iload_n 2, 1) := by decide +kernel
theorem dX5_faultOfRelease_14 : decode cX5_faultOfRelease 14 = .ok (.iconst 0, 1) := by decide +kernel
theorem dX5_faultOfRelease_15 : decode cX5_faultOfRelease 15 = .ok (.bipush 30, 2) := by decide +kernel
theorem dX5_faultOfRelease_17 : decode cX5_faultOfRelease 17 = .ok (.invokestatic 49, 3) := by decide +kernel
theorem dX5_faultOfRelease_20 : decode cX5_faultOfRelease 20 = .ok (.ifCond .eq 8, 3) := by decide +kernel
theorem dX5_faultOfRelease_23 : decode cX5_faultOfRelease 23 = .ok (.bipush 46, 2) := by decide +kernel
theorem dX5_faultOfRelease_25 : decode cX5_faultOfRelease 25 = .ok (.goto 5, 3) := by decide +kernel
theorem dX5_faultOfRelease_28 : decode cX5_faultOfRelease 28 = .ok (.bipush 97, 2) := by decide +kernel
theorem dX5_faultOfRelease_30 : decode cX5_faultOfRelease 30 = .ok (.ireturn, 1) := by decide +kernel
theorem dX5_faultOfLimit_0 : decode cX5_faultOfLimit 0 = .ok (.iload_n 1, 1) := by decide +kernel
theorem dX5_faultOfLimit_1 : decode cX5_faultOfLimit 1 = .ok (.iconst 0, 1) := by decide +kernel
theorem dX5_faultOfLimit_2 : decode cX5_faultOfLimit 2 = .ok (.iconst 2, 1) := by decide +kernel
theorem dX5_faultOfLimit_3 : decode cX5_faultOfLimit 3 = .ok (.invokestatic 49, 3) := by decide +kernel
theorem dX5_faultOfLimit_6 : decode cX5_faultOfLimit 6 = .ok (.ifCond .eq 17, 3) := by decide +kernel
theorem dX5_faultOfLimit_9 : decode cX5_faultOfLimit 9 = .ok (.iload_n 2, 1) := by decide +kernel
theorem dX5_faultOfLimit_10 : decode cX5_faultOfLimit 10 = .ok (.iconst 5, 1) := by decide +kernel
theorem dX5_faultOfLimit_11 : decode cX5_faultOfLimit 11 = .ok (.bipush 20, 2) := by decide +kernel
theorem dX5_faultOfLimit_13 : decode cX5_faultOfLimit 13 = .ok (.invokestatic 49, 3) := by decide +kernel
theorem dX5_faultOfLimit_16 : decode cX5_faultOfLimit 16 = .ok (.ifCond .eq 7, 3) := by decide +kernel
theorem dX5_faultOfLimit_19 : decode cX5_faultOfLimit 19 = .ok (.iconst 1, 1) := by decide +kernel
theorem dX5_faultOfLimit_20 : decode cX5_faultOfLimit 20 = .ok (.goto 4, 3) := by decide +kernel
theorem dX5_faultOfLimit_23 : decode cX5_faultOfLimit 23 = .ok (.iconst 0, 1) := by decide +kernel
theorem dX5_faultOfLimit_24 : decode cX5_faultOfLimit 24 = .ok (.istore_n 3, 1) := by decide +kernel
theorem dX5_faultOfLimit_25 : decode cX5_faultOfLimit 25 = .ok (.iload_n 3, 1) := by decide +kernel
theorem dX5_faultOfLimit_26 : decode cX5_faultOfLimit 26 = .ok (.ifCond .eq 8, 3) := by decide +kernel
theorem dX5_faultOfLimit_29 : decode cX5_faultOfLimit 29 = .ok (.bipush 46, 2) := by decide +kernel
theorem dX5_faultOfLimit_31 : decode cX5_faultOfLimit 31 = .ok (.goto 5, 3) := by decide +kernel
theorem dX5_faultOfLimit_34 : decode cX5_faultOfLimit 34 = .ok (.bipush 97, 2) := by decide +kernel
theorem dX5_faultOfLimit_36 : decode cX5_faultOfLimit 36 = .ok (.ireturn, 1) := by decide +kernel
theorem dX5_append_0 : decode cX5_append 0 = .ok (.aload_n 0, 1) := by decide +kernel
theorem dX5_append_1 : decode cX5_append 1 = .ok (.getfield 41, 3) := by decide +kernel
theorem dX5_append_4 : decode cX5_append 4 = .ok (.istore 5, 2) := by decide +kernel
theorem dX5_append_6 : decode cX5_append 6 = .ok (.aload_n 0, 1) := by decide +kernel
theorem dX5_append_7 : decode cX5_append 7 = .ok (.getfield 9, 3) := by decide +kernel
theorem dX5_append_10 : decode cX5_append 10 = .ok (.iload 5, 2) := by decide +kernel
theorem dX5_append_12 : decode cX5_append 12 = .ok (.iload_n 1, 1) := by decide +kernel
theorem dX5_append_13 : decode cX5_append 13 = .ok (.invokestatic 65, 3) := by decide +kernel
theorem dX5_append_16 : decode cX5_append 16 = .ok (.aload_n 0, 1) := by decide +kernel
theorem dX5_append_17 : decode cX5_append 17 = .ok (.getfield 15, 3) := by decide +kernel
theorem dX5_append_20 : decode cX5_append 20 = .ok (.iload 5, 2) := by decide +kernel
theorem dX5_append_22 : decode cX5_append 22 = .ok (.iload_n 2, 1) := by decide +kernel
theorem dX5_append_23 : decode cX5_append 23 = .ok (.invokestatic 65, 3) := by decide +kernel
theorem dX5_append_26 : decode cX5_append 26 = .ok (.aload_n 0, 1) := by decide +kernel
theorem dX5_append_27 : decode cX5_append 27 = .ok (.getfield 18, 3) := by decide +kernel
theorem dX5_append_30 : decode cX5_append 30 = .ok (.iload 5, 2) := by decide +kernel
theorem dX5_append_32 : decode cX5_append 32 = .ok (.iload_n 3, 1) := by decide +kernel
theorem dX5_append_33 : decode cX5_append 33 = .ok (.invokestatic 65, 3) := by decide +kernel
theorem dX5_append_36 : decode cX5_append 36 = .ok (.aload_n 0, 1) := by decide +kernel
theorem dX5_append_37 : decode cX5_append 37 = .ok (.getfield 21, 3) := by decide +kernel
theorem dX5_append_40 : decode cX5_append 40 = .ok (.iload 5, 2) := by decide +kernel
theorem dX5_append_42 : decode cX5_append 42 = .ok (.iload 4, 2) := by decide +kernel
theorem dX5_append_44 : decode cX5_append 44 = .ok (.invokestatic 65, 3) := by decide +kernel
theorem dX5_append_47 : decode cX5_append 47 = .ok (.aload_n 0, 1) := by decide +kernel
theorem dX5_append_48 : decode cX5_append 48 = .ok (.getfield 24, 3) := by decide +kernel
theorem dX5_append_51 : decode cX5_append 51 = .ok (.iload 5, 2) := by decide +kernel
theorem dX5_append_53 : decode cX5_append 53 = .ok (.iconst 0, 1) := by decide +kernel
theorem dX5_append_54 : decode cX5_append 54 = .ok (.invokestatic 65, 3) := by decide +kernel
theorem dX5_append_57 : decode cX5_append 57 = .ok (.aload_n 0, 1) := by decide +kernel
theorem dX5_append_58 : decode cX5_append 58 = .ok (.getfield 27, 3) := by decide +kernel
theorem dX5_append_61 : decode cX5_append 61 = .ok (.iload 5, 2) := by decide +kernel
theorem dX5_append_63 : decode cX5_append 63 = .ok (.iconst (-1), 1) := by decide +kernel
theorem dX5_append_64 : decode cX5_append 64 = .ok (.invokestatic 65, 3) := by decide +kernel
theorem dX5_append_67 : decode cX5_append 67 = .ok (.aload_n 0, 1) := by decide +kernel
theorem dX5_append_68 : decode cX5_append 68 = .ok (.iload 5, 2) := by decide +kernel
theorem dX5_append_70 : decode cX5_append 70 = .ok (.iconst 1, 1) := by decide +kernel
theorem dX5_append_71 : decode cX5_append 71 = .ok (.iadd, 1) := by decide +kernel
theorem dX5_append_72 : decode cX5_append 72 = .ok (.putfield 41, 3) := by decide +kernel
theorem dX5_append_75 : decode cX5_append 75 = .ok (.iload 5, 2) := by decide +kernel
theorem dX5_append_77 : decode cX5_append 77 = .ok (.ireturn, 1) := by decide +kernel
theorem dX5_drop_0 : decode cX5_drop 0 = .ok (.aload_n 0, 1) := by decide +kernel
theorem dX5_drop_1 : decode cX5_drop 1 = .ok (.getfield 9, 3) := by decide +kernel
theorem dX5_drop_4 : decode cX5_drop 4 = .ok (.iload_n 1, 1) := by decide +kernel
theorem dX5_drop_5 : decode cX5_drop 5 = .ok (.invokestatic 69, 3) := by decide +kernel
theorem dX5_drop_8 : decode cX5_drop 8 = .ok (.aload_n 0, 1) := by decide +kernel
theorem dX5_drop_9 : decode cX5_drop 9 = .ok (.getfield 15, 3) := by decide +kernel
theorem dX5_drop_12 : decode cX5_drop 12 = .ok (.iload_n 1, 1) := by decide +kernel
theorem dX5_drop_13 : decode cX5_drop 13 = .ok (.invokestatic 69, 3) := by decide +kernel
theorem dX5_drop_16 : decode cX5_drop 16 = .ok (.aload_n 0, 1) := by decide +kernel
theorem dX5_drop_17 : decode cX5_drop 17 = .ok (.getfield 18, 3) := by decide +kernel
theorem dX5_drop_20 : decode cX5_drop 20 = .ok (.iload_n 1, 1) := by decide +kernel
theorem dX5_drop_21 : decode cX5_drop 21 = .ok (.invokestatic 69, 3) := by decide +kernel
theorem dX5_drop_24 : decode cX5_drop 24 = .ok (.aload_n 0, 1) := by decide +kernel
theorem dX5_drop_25 : decode cX5_drop 25 = .ok (.getfield 21, 3) := by decide +kernel
theorem dX5_drop_28 : decode cX5_drop 28 = .ok (.iload_n 1, 1) := by decide +kernel
theorem dX5_drop_29 : decode cX5_drop 29 = .ok (.invokestatic 69, 3) := by decide +kernel
theorem dX5_drop_32 : decode cX5_drop 32 = .ok (.aload_n 0, 1) := by decide +kernel
theorem dX5_drop_33 : decode cX5_drop 33 = .ok (.getfield 24, 3) := by decide +kernel
theorem dX5_drop_36 : decode cX5_drop 36 = .ok (.iload_n 1, 1) := by decide +kernel
theorem dX5_drop_37 : decode cX5_drop 37 = .ok (.invokestatic 69, 3) := by decide +kernel
theorem dX5_drop_40 : decode cX5_drop 40 = .ok (.aload_n 0, 1) := by decide +kernel
theorem dX5_drop_41 : decode cX5_drop 41 = .ok (.getfield 27, 3) := by decide +kernel
theorem dX5_drop_44 : decode cX5_drop 44 = .ok (.iload_n 1, 1) := by decide +kernel
theorem dX5_drop_45 : decode cX5_drop 45 = .ok (.invokestatic 69, 3) := by decide +kernel
theorem dX5_drop_48 : decode cX5_drop 48 = .ok (.aload_n 0, 1) := by decide +kernel
theorem dX5_drop_49 : decode cX5_drop 49 = .ok (.dup, 1) := by decide +kernel
theorem dX5_drop_50 : decode cX5_drop 50 = .ok (.getfield 41, 3) := by decide +kernel
theorem dX5_drop_53 : decode cX5_drop 53 = .ok (.iconst 1, 1) := by decide +kernel
theorem dX5_drop_54 : decode cX5_drop 54 = .ok (.isub, 1) := by decide +kernel
theorem dX5_drop_55 : decode cX5_drop 55 = .ok (.putfield 41, 3) := by decide +kernel
theorem dX5_drop_58 : decode cX5_drop 58 = .ok (.iconst 1, 1) := by decide +kernel
theorem dX5_drop_59 : decode cX5_drop 59 = .ok (.iload_n 1, 1) := by decide +kernel
theorem dX5_drop_60 : decode cX5_drop 60 = .ok (.ishl, 1) := by decide +kernel
theorem dX5_drop_61 : decode cX5_drop 61 = .ok (.iconst 1, 1) := by decide +kernel
theorem dX5_drop_62 : decode cX5_drop 62 = .ok (.isub, 1) := by decide +kernel
theorem dX5_drop_63 : decode cX5_drop 63 = .ok (.istore_n 2, 1) := by decide +kernel
theorem dX5_drop_64 : decode cX5_drop 64 = .ok (.iconst 0, 1) := by decide +kernel
theorem dX5_drop_65 : decode cX5_drop 65 = .ok (.istore_n 3, 1) := by decide +kernel
theorem dX5_drop_66 : decode cX5_drop 66 = .ok (.iload_n 3, 1) := by decide +kernel
theorem dX5_drop_67 : decode cX5_drop 67 = .ok (.aload_n 0, 1) := by decide +kernel
theorem dX5_drop_68 : decode cX5_drop 68 = .ok (.getfield 41, 3) := by decide +kernel
theorem dX5_drop_71 : decode cX5_drop 71 = .ok (.if_icmp .ge 40, 3) := by decide +kernel
theorem dX5_drop_74 : decode cX5_drop 74 = .ok (.aload_n 0, 1) := by decide +kernel
theorem dX5_drop_75 : decode cX5_drop 75 = .ok (.getfield 24, 3) := by decide +kernel
theorem dX5_drop_78 : decode cX5_drop 78 = .ok (.iload_n 3, 1) := by decide +kernel
theorem dX5_drop_79 : decode cX5_drop 79 = .ok (.invokestatic 72, 3) := by decide +kernel
theorem dX5_drop_82 : decode cX5_drop 82 = .ok (.istore 4, 2) := by decide +kernel
theorem dX5_drop_84 : decode cX5_drop 84 = .ok (.aload_n 0, 1) := by decide +kernel
theorem dX5_drop_85 : decode cX5_drop 85 = .ok (.getfield 24, 3) := by decide +kernel
theorem dX5_drop_88 : decode cX5_drop 88 = .ok (.iload_n 3, 1) := by decide +kernel
theorem dX5_drop_89 : decode cX5_drop 89 = .ok (.iload 4, 2) := by decide +kernel
theorem dX5_drop_91 : decode cX5_drop 91 = .ok (.iload_n 2, 1) := by decide +kernel
theorem dX5_drop_92 : decode cX5_drop 92 = .ok (.iand, 1) := by decide +kernel
theorem dX5_drop_93 : decode cX5_drop 93 = .ok (.iload 4, 2) := by decide +kernel
theorem dX5_drop_95 : decode cX5_drop 95 = .ok (.iconst 1, 1) := by decide +kernel
theorem dX5_drop_96 : decode cX5_drop 96 = .ok (.ishr, 1) := by decide +kernel
theorem dX5_drop_97 : decode cX5_drop 97 = .ok (.iload_n 2, 1) := by decide +kernel
theorem dX5_drop_98 : decode cX5_drop 98 = .ok (.iconst (-1), 1) := by decide +kernel
theorem dX5_drop_99 : decode cX5_drop 99 = .ok (.ixor, 1) := by decide +kernel
theorem dX5_drop_100 : decode cX5_drop 100 = .ok (.iand, 1) := by decide +kernel
theorem dX5_drop_101 : decode cX5_drop 101 = .ok (.ior, 1) := by decide +kernel
theorem dX5_drop_102 : decode cX5_drop 102 = .ok (.invokestatic 65, 3) := by decide +kernel
theorem dX5_drop_105 : decode cX5_drop 105 = .ok (.iinc 3 1, 3) := by decide +kernel
theorem dX5_drop_108 : decode cX5_drop 108 = .ok (.goto (-42), 3) := by decide +kernel
theorem dX5_drop_111 : decode cX5_drop 111 = .ok (.return_, 1) := by decide +kernel
theorem dX5_link_0 : decode cX5_link 0 = .ok (.aload_n 0, 1) := by decide +kernel
theorem dX5_link_1 : decode cX5_link 1 = .ok (.getfield 24, 3) := by decide +kernel
theorem dX5_link_4 : decode cX5_link 4 = .ok (.iload_n 1, 1) := by decide +kernel
theorem dX5_link_5 : decode cX5_link 5 = .ok (.aload_n 0, 1) := by decide +kernel
theorem dX5_link_6 : decode cX5_link 6 = .ok (.getfield 24, 3) := by decide +kernel
theorem dX5_link_9 : decode cX5_link 9 = .ok (.iload_n 1, 1) := by decide +kernel
theorem dX5_link_10 : decode cX5_link 10 = .ok (.invokestatic 72, 3) := by decide +kernel
theorem dX5_link_13 : decode cX5_link 13 = .ok (.iconst 1, 1) := by decide +kernel
theorem dX5_link_14 : decode cX5_link 14 = .ok (.iload_n 2, 1) := by decide +kernel
theorem dX5_link_15 : decode cX5_link 15 = .ok (.ishl, 1) := by decide +kernel
theorem dX5_link_16 : decode cX5_link 16 = .ok (.ior, 1) := by decide +kernel
theorem dX5_link_17 : decode cX5_link 17 = .ok (.invokestatic 65, 3) := by decide +kernel
theorem dX5_link_20 : decode cX5_link 20 = .ok (.return_, 1) := by decide +kernel
theorem dX5_unlink_0 : decode cX5_unlink 0 = .ok (.aload_n 0, 1) := by decide +kernel
theorem dX5_unlink_1 : decode cX5_unlink 1 = .ok (.getfield 24, 3) := by decide +kernel
theorem dX5_unlink_4 : decode cX5_unlink 4 = .ok (.iload_n 1, 1) := by decide +kernel
theorem dX5_unlink_5 : decode cX5_unlink 5 = .ok (.aload_n 0, 1) := by decide +kernel
theorem dX5_unlink_6 : decode cX5_unlink 6 = .ok (.getfield 24, 3) := by decide +kernel
theorem dX5_unlink_9 : decode cX5_unlink 9 = .ok (.iload_n 1, 1) := by decide +kernel
theorem dX5_unlink_10 : decode cX5_unlink 10 = .ok (.invokestatic 72, 3) := by decide +kernel
theorem dX5_unlink_13 : decode cX5_unlink 13 = .ok (.iconst 1, 1) := by decide +kernel
theorem dX5_unlink_14 : decode cX5_unlink 14 = .ok (.iload_n 2, 1) := by decide +kernel
theorem dX5_unlink_15 : decode cX5_unlink 15 = .ok (.ishl, 1) := by decide +kernel
theorem dX5_unlink_16 : decode cX5_unlink 16 = .ok (.iconst (-1), 1) := by decide +kernel
theorem dX5_unlink_17 : decode cX5_unlink 17 = .ok (.ixor, 1) := by decide +kernel
theorem dX5_unlink_18 : decode cX5_unlink 18 = .ok (.iand, 1) := by decide +kernel
theorem dX5_unlink_19 : decode cX5_unlink 19 = .ok (.invokestatic 65, 3) := by decide +kernel
theorem dX5_unlink_22 : decode cX5_unlink 22 = .ok (.return_, 1) := by decide +kernel
theorem dX5_isLinked_0 : decode cX5_isLinked 0 = .ok (.aload_n 0, 1) := by decide +kernel
theorem dX5_isLinked_1 : decode cX5_isLinked 1 = .ok (.getfield 24, 3) := by decide +kernel
theorem dX5_isLinked_4 : decode cX5_isLinked 4 = .ok (.iload_n 1, 1) := by decide +kernel
theorem dX5_isLinked_5 : decode cX5_isLinked 5 = .ok (.invokestatic 72, 3) := by decide +kernel
theorem dX5_isLinked_8 : decode cX5_isLinked 8 = .ok (.iload_n 2, 1) := by decide +kernel
theorem dX5_isLinked_9 : decode cX5_isLinked 9 = .ok (.invokestatic 76, 3) := by decide +kernel
theorem dX5_isLinked_12 : decode cX5_isLinked 12 = .ok (.ireturn, 1) := by decide +kernel
theorem dX5_reaches_0 : decode cX5_reaches 0 = .ok (.aload_n 0, 1) := by decide +kernel
theorem dX5_reaches_1 : decode cX5_reaches 1 = .ok (.getfield 24, 3) := by decide +kernel
theorem dX5_reaches_4 : decode cX5_reaches 4 = .ok (.iload_n 1, 1) := by decide +kernel
theorem dX5_reaches_5 : decode cX5_reaches 5 = .ok (.iconst 0, 1) := by decide +kernel
theorem dX5_reaches_6 : decode cX5_reaches 6 = .ok (.iconst 0, 1) := by decide +kernel
theorem dX5_reaches_7 : decode cX5_reaches 7 = .ok (.invokestatic 79, 3) := by decide +kernel
theorem dX5_reaches_10 : decode cX5_reaches 10 = .ok (.iload_n 2, 1) := by decide +kernel
theorem dX5_reaches_11 : decode cX5_reaches 11 = .ok (.invokestatic 76, 3) := by decide +kernel
theorem dX5_reaches_14 : decode cX5_reaches 14 = .ok (.ireturn, 1) := by decide +kernel
theorem dX5_search_0 : decode cX5_search 0 = .ok (.iload_n 2, 1) := by decide +kernel
theorem dX5_search_1 : decode cX5_search 1 = .ok (.istore 4, 2) := by decide +kernel
theorem dX5_search_3 : decode cX5_search 3 = .ok (.iload_n 3, 1) := by decide +kernel
theorem dX5_search_4 : decode cX5_search 4 = .ok (.bipush 12, 2) := by decide +kernel
theorem dX5_search_6 : decode cX5_search 6 = .ok (.if_icmp .le 6, 3) := by decide +kernel
theorem dX5_search_9 : decode cX5_search 9 = .ok (.iload 4, 2) := by decide +kernel
theorem dX5_search_11 : decode cX5_search 11 = .ok (.ireturn, 1) := by decide +kernel
theorem dX5_search_12 : decode cX5_search 12 = .ok (.aload_n 0, 1) := by decide +kernel
theorem dX5_search_13 : decode cX5_search 13 = .ok (.iload_n 1, 1) := by decide +kernel
theorem dX5_search_14 : decode cX5_search 14 = .ok (.invokestatic 72, 3) := by decide +kernel
theorem dX5_search_17 : decode cX5_search 17 = .ok (.istore 5, 2) := by decide +kernel
theorem dX5_search_19 : decode cX5_search 19 = .ok (.iconst 0, 1) := by decide +kernel
theorem dX5_search_20 : decode cX5_search 20 = .ok (.istore 6, 2) := by decide +kernel
theorem dX5_search_22 : decode cX5_search 22 = .ok (.iload 6, 2) := by decide +kernel
theorem dX5_search_24 : decode cX5_search 24 = .ok (.bipush 12, 2) := by decide +kernel
theorem dX5_search_26 : decode cX5_search 26 = .ok (.if_icmp .ge 47, 3) := by decide +kernel
theorem dX5_search_29 : decode cX5_search 29 = .ok (.iload 5, 2) := by decide +kernel
theorem dX5_search_31 : decode cX5_search 31 = .ok (.iload 6, 2) := by decide +kernel
theorem dX5_search_33 : decode cX5_search 33 = .ok (.invokestatic 76, 3) := by decide +kernel
theorem dX5_search_36 : decode cX5_search 36 = .ok (.ifCond .eq 31, 3) := by decide +kernel
theorem dX5_search_39 : decode cX5_search 39 = .ok (.iload 4, 2) := by decide +kernel
theorem dX5_search_41 : decode cX5_search 41 = .ok (.iload 6, 2) := by decide +kernel
theorem dX5_search_43 : decode cX5_search 43 = .ok (.invokestatic 76, 3) := by decide +kernel
theorem dX5_search_46 : decode cX5_search 46 = .ok (.ifCond .ne 21, 3) := by decide +kernel
theorem dX5_search_49 : decode cX5_search 49 = .ok (.aload_n 0, 1) := by decide +kernel
theorem dX5_search_50 : decode cX5_search 50 = .ok (.iload 6, 2) := by decide +kernel
theorem dX5_search_52 : decode cX5_search 52 = .ok (.iload 4, 2) := by decide +kernel
theorem dX5_search_54 : decode cX5_search 54 = .ok (.iconst 1, 1) := by decide +kernel
theorem dX5_search_55 : decode cX5_search 55 = .ok (.iload 6, 2) := by decide +kernel
theorem dX5_search_57 : decode cX5_search 57 = .ok (.ishl, 1) := by decide +kernel
theorem dX5_search_58 : decode cX5_search 58 = .ok (.ior, 1) := by decide +kernel
theorem dX5_search_59 : decode cX5_search 59 = .ok (.iload_n 3, 1) := by decide +kernel
theorem dX5_search_60 : decode cX5_search 60 = .ok (.iconst 1, 1) := by decide +kernel
theorem dX5_search_61 : decode cX5_search 61 = .ok (.iadd, 1) := by decide +kernel
theorem dX5_search_62 : decode cX5_search 62 = .ok (.invokestatic 79, 3) := by decide +kernel
theorem dX5_search_65 : decode cX5_search 65 = .ok (.istore 4, 2) := by decide +kernel
theorem dX5_search_67 : decode cX5_search 67 = .ok (.iinc 6 1, 3) := by decide +kernel
theorem dX5_search_70 : decode cX5_search 70 = .ok (.goto (-48), 3) := by decide +kernel
theorem dX5_search_73 : decode cX5_search 73 = .ok (.iload 4, 2) := by decide +kernel
theorem dX5_search_75 : decode cX5_search 75 = .ok (.ireturn, 1) := by decide +kernel
theorem dX5_isReady_0 : decode cX5_isReady 0 = .ok (.iload_n 2, 1) := by decide +kernel
theorem dX5_isReady_1 : decode cX5_isReady 1 = .ok (.iload_n 1, 1) := by decide +kernel
theorem dX5_isReady_2 : decode cX5_isReady 2 = .ok (.invokestatic 76, 3) := by decide +kernel
theorem dX5_isReady_5 : decode cX5_isReady 5 = .ok (.ifCond .ne 22, 3) := by decide +kernel
theorem dX5_isReady_8 : decode cX5_isReady 8 = .ok (.aload_n 0, 1) := by decide +kernel
theorem dX5_isReady_9 : decode cX5_isReady 9 = .ok (.getfield 24, 3) := by decide +kernel
theorem dX5_isReady_12 : decode cX5_isReady 12 = .ok (.iload_n 1, 1) := by decide +kernel
theorem dX5_isReady_13 : decode cX5_isReady 13 = .ok (.invokestatic 72, 3) := by decide +kernel
theorem dX5_isReady_16 : decode cX5_isReady 16 = .ok (.iload_n 2, 1) := by decide +kernel
theorem dX5_isReady_17 : decode cX5_isReady 17 = .ok (.iconst (-1), 1) := by decide +kernel
theorem dX5_isReady_18 : decode cX5_isReady 18 = .ok (.ixor, 1) := by decide +kernel
theorem dX5_isReady_19 : decode cX5_isReady 19 = .ok (.iand, 1) := by decide +kernel
theorem dX5_isReady_20 : decode cX5_isReady 20 = .ok (.ifCond .ne 7, 3) := by decide +kernel
theorem dX5_isReady_23 : decode cX5_isReady 23 = .ok (.iconst 1, 1) := by decide +kernel
theorem dX5_isReady_24 : decode cX5_isReady 24 = .ok (.goto 4, 3) := by decide +kernel
theorem dX5_isReady_27 : decode cX5_isReady 27 = .ok (.iconst 0, 1) := by decide +kernel
theorem dX5_isReady_28 : decode cX5_isReady 28 = .ok (.ireturn, 1) := by decide +kernel
theorem dX5_takeStarts_0 : decode cX5_takeStarts 0 = .ok (.aload_n 1, 1) := by decide +kernel
theorem dX5_takeStarts_1 : decode cX5_takeStarts 1 = .ok (.aload_n 0, 1) := by decide +kernel
theorem dX5_takeStarts_2 : decode cX5_takeStarts 2 = .ok (.getfield 27, 3) := by decide +kernel
theorem dX5_takeStarts_5 : decode cX5_takeStarts 5 = .ok (.invokestatic 37, 3) := by decide +kernel
theorem dX5_takeStarts_8 : decode cX5_takeStarts 8 = .ok (.aload_n 0, 1) := by decide +kernel
theorem dX5_takeStarts_9 : decode cX5_takeStarts 9 = .ok (.iconst 1, 1) := by decide +kernel
theorem dX5_takeStarts_10 : decode cX5_takeStarts 10 = .ok (.putfield 45, 3) := by decide +kernel
theorem dX5_takeStarts_13 : decode cX5_takeStarts 13 = .ok (.return_, 1) := by decide +kernel
theorem dX5_hasStart_0 : decode cX5_hasStart 0 = .ok (.aload_n 0, 1) := by decide +kernel
theorem dX5_hasStart_1 : decode cX5_hasStart 1 = .ok (.getfield 45, 3) := by decide +kernel
theorem dX5_hasStart_4 : decode cX5_hasStart 4 = .ok (.ifCond .eq 19, 3) := by decide +kernel
theorem dX5_hasStart_7 : decode cX5_hasStart 7 = .ok (.aload_n 0, 1) := by decide +kernel
theorem dX5_hasStart_8 : decode cX5_hasStart 8 = .ok (.getfield 27, 3) := by decide +kernel
theorem dX5_hasStart_11 : decode cX5_hasStart 11 = .ok (.iload_n 1, 1) := by decide +kernel
theorem dX5_hasStart_12 : decode cX5_hasStart 12 = .ok (.invokestatic 72, 3) := by decide +kernel
theorem dX5_hasStart_15 : decode cX5_hasStart 15 = .ok (.iconst (-1), 1) := by decide +kernel
theorem dX5_hasStart_16 : decode cX5_hasStart 16 = .ok (.if_icmp .eq 7, 3) := by decide +kernel
theorem dX5_hasStart_19 : decode cX5_hasStart 19 = .ok (.iconst 1, 1) := by decide +kernel
theorem dX5_hasStart_20 : decode cX5_hasStart 20 = .ok (.goto 4, 3) := by decide +kernel
theorem dX5_hasStart_23 : decode cX5_hasStart 23 = .ok (.iconst 0, 1) := by decide +kernel
theorem dX5_hasStart_24 : decode cX5_hasStart 24 = .ok (.ireturn, 1) := by decide +kernel
theorem dX5_workOf_0 : decode cX5_workOf 0 = .ok (.iconst 0, 1) := by decide +kernel
theorem dX5_workOf_1 : decode cX5_workOf 1 = .ok (.istore_n 2, 1) := by decide +kernel
theorem dX5_workOf_2 : decode cX5_workOf 2 = .ok (.iconst 0, 1) := by decide +kernel
theorem dX5_workOf_3 : decode cX5_workOf 3 = .ok (.istore_n 3, 1) := by decide +kernel
theorem dX5_workOf_4 : decode cX5_workOf 4 = .ok (.iload_n 3, 1) := by decide +kernel
theorem dX5_workOf_5 : decode cX5_workOf 5 = .ok (.aload_n 0, 1) := by decide +kernel
theorem dX5_workOf_6 : decode cX5_workOf 6 = .ok (.getfield 41, 3) := by decide +kernel
theorem dX5_workOf_9 : decode cX5_workOf 9 = .ok (.if_icmp .ge 41, 3) := by decide +kernel
theorem dX5_workOf_12 : decode cX5_workOf 12 = .ok (.aload_n 0, 1) := by decide +kernel
theorem dX5_workOf_13 : decode cX5_workOf 13 = .ok (.getfield 15, 3) := by decide +kernel
theorem dX5_workOf_16 : decode cX5_workOf 16 = .ok (.iload_n 3, 1) := by decide +kernel
theorem dX5_workOf_17 : decode cX5_workOf 17 = .ok (.invokestatic 72, 3) := by decide +kernel
theorem dX5_workOf_20 : decode cX5_workOf 20 = .ok (.iload_n 1, 1) := by decide +kernel
theorem dX5_workOf_21 : decode cX5_workOf 21 = .ok (.if_icmp .ne 23, 3) := by decide +kernel
theorem dX5_workOf_24 : decode cX5_workOf 24 = .ok (.iload_n 2, 1) := by decide +kernel
theorem dX5_workOf_25 : decode cX5_workOf 25 = .ok (.aload_n 0, 1) := by decide +kernel
theorem dX5_workOf_26 : decode cX5_workOf 26 = .ok (.getfield 9, 3) := by decide +kernel
theorem dX5_workOf_29 : decode cX5_workOf 29 = .ok (.iload_n 3, 1) := by decide +kernel
theorem dX5_workOf_30 : decode cX5_workOf 30 = .ok (.invokestatic 72, 3) := by decide +kernel
theorem dX5_workOf_33 : decode cX5_workOf 33 = .ok (.aload_n 0, 1) := by decide +kernel
theorem dX5_workOf_34 : decode cX5_workOf 34 = .ok (.getfield 18, 3) := by decide +kernel
theorem dX5_workOf_37 : decode cX5_workOf 37 = .ok (.iload_n 3, 1) := by decide +kernel
theorem dX5_workOf_38 : decode cX5_workOf 38 = .ok (.invokestatic 72, 3) := by decide +kernel
theorem dX5_workOf_41 : decode cX5_workOf 41 = .ok (.imul, 1) := by decide +kernel
theorem dX5_workOf_42 : decode cX5_workOf 42 = .ok (.iadd, 1) := by decide +kernel
theorem dX5_workOf_43 : decode cX5_workOf 43 = .ok (.istore_n 2, 1) := by decide +kernel
theorem dX5_workOf_44 : decode cX5_workOf 44 = .ok (.iinc 3 1, 3) := by decide +kernel
theorem dX5_workOf_47 : decode cX5_workOf 47 = .ok (.goto (-43), 3) := by decide +kernel
theorem dX5_workOf_50 : decode cX5_workOf 50 = .ok (.iload_n 2, 1) := by decide +kernel
theorem dX5_workOf_51 : decode cX5_workOf 51 = .ok (.ireturn, 1) := by decide +kernel
theorem dX6_init_0 : decode cX6_init 0 = .ok (.aload_n 0, 1) := by decide +kernel
theorem dX6_init_1 : decode cX6_init 1 = .ok (.invokespecial 3, 3) := by decide +kernel
theorem dX6_init_4 : decode cX6_init 4 = .ok (.aload_n 0, 1) := by decide +kernel
theorem dX6_init_5 : decode cX6_init 5 = .ok (.bipush 60, 2) := by decide +kernel
theorem dX6_init_7 : decode cX6_init 7 = .ok (.newarray .char, 2) := by decide +kernel
theorem dX6_init_9 : decode cX6_init 9 = .ok (.putfield 9, 3) := by decide +kernel
theorem dX6_init_12 : decode cX6_init 12 = .ok (.aload_n 0, 1) := by decide +kernel
theorem dX6_init_13 : decode cX6_init 13 = .ok (.bipush 60, 2) := by decide +kernel
theorem dX6_init_15 : decode cX6_init 15 = .ok (.anewarray 15, 3) := by decide +kernel
theorem dX6_init_18 : decode cX6_init 18 = .ok (.putfield 17, 3) := by decide +kernel
theorem dX6_init_21 : decode cX6_init 21 = .ok (.aload_n 0, 1) := by decide +kernel
theorem dX6_init_22 : decode cX6_init 22 = .ok (.sipush 240, 3) := by decide +kernel
theorem dX6_init_25 : decode cX6_init 25 = .ok (.newarray .int, 2) := by decide +kernel
theorem dX6_init_27 : decode cX6_init 27 = .ok (.putfield 21, 3) := by decide +kernel
theorem dX6_init_30 : decode cX6_init 30 = .ok (.return_, 1) := by decide +kernel
theorem dX6_append_0 : decode cX6_append 0 = .ok (.aload_n 0, 1) := by decide +kernel
theorem dX6_append_1 : decode cX6_append 1 = .ok (.getfield 25, 3) := by decide +kernel
theorem dX6_append_4 : decode cX6_append 4 = .ok (.ifCond .lt 35, 3) := by decide +kernel
theorem dX6_append_7 : decode cX6_append 7 = .ok (.aload_n 0, 1) := by decide +kernel
theorem dX6_append_8 : decode cX6_append 8 = .ok (.getfield 25, 3) := by decide +kernel
theorem dX6_append_11 : decode cX6_append 11 = .ok (.aload_n 0, 1) := by decide +kernel
theorem dX6_append_12 : decode cX6_append 12 = .ok (.getfield 9, 3) := by decide +kernel
theorem dX6_append_15 : decode cX6_append 15 = .ok (.arraylength, 1) := by decide +kernel
theorem dX6_append_16 : decode cX6_append 16 = .ok (.if_icmp .ge 23, 3) := by decide +kernel
theorem dX6_append_19 : decode cX6_append 19 = .ok (.aload_n 0, 1) := by decide +kernel
theorem dX6_append_20 : decode cX6_append 20 = .ok (.getfield 9, 3) := by decide +kernel
theorem dX6_append_23 : decode cX6_append 23 = .ok (.aload_n 0, 1) := by decide +kernel
theorem dX6_append_24 : decode cX6_append 24 = .ok (.getfield 25, 3) := by decide +kernel
theorem dX6_append_27 : decode cX6_append 27 = .ok (.iload_n 1, 1) := by decide +kernel
theorem dX6_append_28 : decode cX6_append 28 = .ok (.castore, 1) := by decide +kernel
theorem dX6_append_29 : decode cX6_append 29 = .ok (.aload_n 0, 1) := by decide +kernel
theorem dX6_append_30 : decode cX6_append 30 = .ok (.dup, 1) := by decide +kernel
theorem dX6_append_31 : decode cX6_append 31 = .ok (.getfield 25, 3) := by decide +kernel
theorem dX6_append_34 : decode cX6_append 34 = .ok (.iconst 1, 1) := by decide +kernel
theorem dX6_append_35 : decode cX6_append 35 = .ok (.iadd, 1) := by decide +kernel
theorem dX6_append_36 : decode cX6_append 36 = .ok (.putfield 25, 3) := by decide +kernel
theorem dX6_append_39 : decode cX6_append 39 = .ok (.return_, 1) := by decide +kernel
theorem dX6_clear_0 : decode cX6_clear 0 = .ok (.aload_n 0, 1) := by decide +kernel
theorem dX6_clear_1 : decode cX6_clear 1 = .ok (.iconst 0, 1) := by decide +kernel
theorem dX6_clear_2 : decode cX6_clear 2 = .ok (.putfield 25, 3) := by decide +kernel
theorem dX6_clear_5 : decode cX6_clear 5 = .ok (.return_, 1) := by decide +kernel
theorem dX6_commandAt_0 : decode cX6_commandAt 0 = .ok (.iload_n 1, 1) := by decide +kernel
theorem dX6_commandAt_1 : decode cX6_commandAt 1 = .ok (.ifCond .lt 21, 3) := by decide +kernel
theorem dX6_commandAt_4 : decode cX6_commandAt 4 = .ok (.iload_n 1, 1) := by decide +kernel
theorem dX6_commandAt_5 : decode cX6_commandAt 5 = .ok (.aload_n 0, 1) := by decide +kernel
theorem dX6_commandAt_6 : decode cX6_commandAt 6 = .ok (.getfield 17, 3) := by decide +kernel
theorem dX6_commandAt_9 : decode cX6_commandAt 9 = .ok (.arraylength, 1) := by decide +kernel
theorem dX6_commandAt_10 : decode cX6_commandAt 10 = .ok (.if_icmp .ge 12, 3) := by decide +kernel
theorem dX6_commandAt_13 : decode cX6_commandAt 13 = .ok (.aload_n 0, 1) := by decide +kernel
theorem dX6_commandAt_14 : decode cX6_commandAt 14 = .ok (.getfield 17, 3) := by decide +kernel
theorem dX6_commandAt_17 : decode cX6_commandAt 17 = .ok (.iload_n 1, 1) := by decide +kernel
theorem dX6_commandAt_18 : decode cX6_commandAt 18 = .ok (.aaload, 1) := by decide +kernel
theorem dX6_commandAt_19 : decode cX6_commandAt 19 = .ok (.goto 4, 3) := by decide +kernel
theorem dX6_commandAt_22 : decode cX6_commandAt 22 = .ok (.aconst_null, 1) := by decide +kernel
theorem dX6_commandAt_23 : decode cX6_commandAt 23 = .ok (.areturn, 1) := by decide +kernel
theorem dX6_numberAt_0 : decode cX6_numberAt 0 = .ok (.aload_n 0, 1) := by decide +kernel
theorem dX6_numberAt_1 : decode cX6_numberAt 1 = .ok (.getfield 21, 3) := by decide +kernel
theorem dX6_numberAt_4 : decode cX6_numberAt 4 = .ok (.iload_n 1, 1) := by decide +kernel
theorem dX6_numberAt_5 : decode cX6_numberAt 5 = .ok (.iconst 4, 1) := by decide +kernel
theorem dX6_numberAt_6 : decode cX6_numberAt 6 = .ok (.imul, 1) := by decide +kernel
theorem dX6_numberAt_7 : decode cX6_numberAt 7 = .ok (.iload_n 2, 1) := by decide +kernel
theorem dX6_numberAt_8 : decode cX6_numberAt 8 = .ok (.iadd, 1) := by decide +kernel
theorem dX6_numberAt_9 : decode cX6_numberAt 9 = .ok (.invokestatic 29, 3) := by decide +kernel
theorem dX6_numberAt_12 : decode cX6_numberAt 12 = .ok (.ireturn, 1) := by decide +kernel
theorem dX6_read_0 : decode cX6_read 0 = .ok (.aload_n 0, 1) := by decide +kernel
theorem dX6_read_1 : decode cX6_read 1 = .ok (.iconst 0, 1) := by decide +kernel
theorem dX6_read_2 : decode cX6_read 2 = .ok (.putfield 33, 3) := by decide +kernel
theorem dX6_read_5 : decode cX6_read 5 = .ok (.aload_n 0, 1) := by decide +kernel
theorem dX6_read_6 : decode cX6_read 6 = .ok (.iconst 0, 1) := by decide +kernel
theorem dX6_read_7 : decode cX6_read 7 = .ok (.putfield 36, 3) := by decide +kernel
theorem dX6_read_10 : decode cX6_read 10 = .ok (.iconst 1, 1) := by decide +kernel
theorem dX6_read_11 : decode cX6_read 11 = .ok (.istore_n 1, 1) := by decide +kernel
theorem dX6_read_12 : decode cX6_read 12 = .ok (.iconst 0, 1) := by decide +kernel
theorem dX6_read_13 : decode cX6_read 13 = .ok (.istore_n 2, 1) := by decide +kernel
theorem dX6_read_14 : decode cX6_read 14 = .ok (.iload_n 1, 1) := by decide +kernel
theorem dX6_read_15 : decode cX6_read 15 = .ok (.ifCond .eq 74, 3) := by decide +kernel
theorem dX6_read_18 : decode cX6_read 18 = .ok (.iload_n 2, 1) := by decide +kernel
theorem dX6_read_19 : decode cX6_read 19 = .ok (.aload_n 0, 1) := by decide +kernel
theorem dX6_read_20 : decode cX6_read 20 = .ok (.getfield 17, 3) := by decide +kernel
theorem dX6_read_23 : decode cX6_read 23 = .ok (.arraylength, 1) := by decide +kernel
theorem dX6_read_24 : decode cX6_read 24 = .ok (.if_icmp .ge 65, 3) := by decide +kernel
theorem dX6_read_27 : decode cX6_read 27 = .ok (.aload_n 0, 1) := by decide +kernel
theorem dX6_read_28 : decode cX6_read 28 = .ok (.invokevirtual 39, 3) := by decide +kernel
theorem dX6_read_31 : decode cX6_read 31 = .ok (.ifCond .ne 5, 3) := by decide +kernel
theorem dX6_read_34 : decode cX6_read 34 = .ok (.iconst 0, 1) := by decide +kernel
theorem dX6_read_35 : decode cX6_read 35 = .ok (.ireturn, 1) := by decide +kernel
theorem dX6_read_36 : decode cX6_read 36 = .ok (.aload_n 0, 1) := by decide +kernel
theorem dX6_read_37 : decode cX6_read 37 = .ok (.getfield 33, 3) := by decide +kernel
theorem dX6_read_40 : decode cX6_read 40 = .ok (.aload_n 0, 1) := by decide +kernel
theorem dX6_read_41 : decode cX6_read 41 = .ok (.getfield 25, 3) := by decide +kernel
theorem dX6_read_44 : decode cX6_read 44 = .ok (.if_icmp .ge 23, 3) := by decide +kernel
theorem dX6_read_47 : decode cX6_read 47 = .ok (.aload_n 0, 1) := by decide +kernel
theorem dX6_read_48 : decode cX6_read 48 = .ok (.getfield 9, 3) := by decide +kernel
theorem dX6_read_51 : decode cX6_read 51 = .ok (.aload_n 0, 1) := by decide +kernel
theorem dX6_read_52 : decode cX6_read 52 = .ok (.getfield 33, 3) := by decide +kernel
theorem dX6_read_55 : decode cX6_read 55 = .ok (.invokestatic 43, 3) := by decide +kernel
theorem dX6_read_58 : decode cX6_read 58 = .ok (.bipush 59, 2) := by decide +kernel
theorem dX6_read_60 : decode cX6_read 60 = .ok (.if_icmp .ne 7, 3) := by decide +kernel
theorem dX6_read_63 : decode cX6_read 63 = .ok (.iconst 1, 1) := by decide +kernel
theorem dX6_read_64 : decode cX6_read 64 = .ok (.goto 4, 3) := by decide +kernel
theorem dX6_read_67 : decode cX6_read 67 = .ok (.iconst 0, 1) := by decide +kernel
theorem dX6_read_68 : decode cX6_read 68 = .ok (.istore_n 1, 1) := by decide +kernel
theorem dX6_read_69 : decode cX6_read 69 = .ok (.iload_n 1, 1) := by decide +kernel
theorem dX6_read_70 : decode cX6_read 70 = .ok (.ifCond .eq 13, 3) := by decide +kernel
theorem dX6_read_73 : decode cX6_read 73 = .ok (.aload_n 0, 1) := by decide +kernel
theorem dX6_read_74 : decode cX6_read 74 = .ok (.dup, 1) := by decide +kernel
theorem dX6_read_75 : decode cX6_read 75 = .ok (.getfield 33, 3) := by decide +kernel
theorem dX6_read_78 : decode cX6_read 78 = .ok (.iconst 1, 1) := by decide +kernel
theorem dX6_read_79 : decode cX6_read 79 = .ok (.iadd, 1) := by decide +kernel
theorem dX6_read_80 : decode cX6_read 80 = .ok (.putfield 33, 3) := by decide +kernel
theorem dX6_read_83 : decode cX6_read 83 = .ok (.iinc 2 1, 3) := by decide +kernel
theorem dX6_read_86 : decode cX6_read 86 = .ok (.goto (-72), 3) := by decide +kernel
theorem dX6_read_89 : decode cX6_read 89 = .ok (.iload_n 1, 1) := by decide +kernel
theorem dX6_read_90 : decode cX6_read 90 = .ok (.ifCond .ne 18, 3) := by decide +kernel
theorem dX6_read_93 : decode cX6_read 93 = .ok (.aload_n 0, 1) := by decide +kernel
theorem dX6_read_94 : decode cX6_read 94 = .ok (.getfield 33, 3) := by decide +kernel
theorem dX6_read_97 : decode cX6_read 97 = .ok (.aload_n 0, 1) := by decide +kernel
theorem dX6_read_98 : decode cX6_read 98 = .ok (.getfield 25, 3) := by decide +kernel
theorem dX6_read_101 : decode cX6_read 101 = .ok (.if_icmp .ne 7, 3) := by decide +kernel
theorem dX6_read_104 : decode cX6_read 104 = .ok (.iconst 1, 1) := by decide +kernel
theorem dX6_read_105 : decode cX6_read 105 = .ok (.goto 4, 3) := by decide +kernel
theorem dX6_read_108 : decode cX6_read 108 = .ok (.iconst 0, 1) := by decide +kernel
theorem dX6_read_109 : decode cX6_read 109 = .ok (.ireturn, 1) := by decide +kernel
theorem dX6_readCommand_0 : decode cX6_readCommand 0 = .ok (.aload_n 0, 1) := by decide +kernel
theorem dX6_readCommand_1 : decode cX6_readCommand 1 = .ok (.getfield 33, 3) := by decide +kernel
theorem dX6_readCommand_4 : decode cX6_readCommand 4 = .ok (.istore_n 1, 1) := by decide +kernel
theorem dX6_readCommand_5 : decode cX6_readCommand 5 = .ok (.iload_n 1, 1) := by decide +kernel
theorem dX6_readCommand_6 : decode cX6_readCommand 6 = .ok (.istore_n 2, 1) := by decide +kernel
theorem dX6_readCommand_7 : decode cX6_readCommand 7 = .ok (.getstatic 47, 3) := by decide +kernel
theorem dX6_readCommand_10 : decode cX6_readCommand 10 = .ok (.astore_n 3, 1) := by decide +kernel
theorem dX6_readCommand_11 : decode cX6_readCommand 11 = .ok (.aload_n 3, 1) := by decide +kernel
theorem dX6_readCommand_12 : decode cX6_readCommand 12 = .ok (.arraylength, 1) := by decide +kernel
theorem dX6_readCommand_13 : decode cX6_readCommand 13 = .ok (.istore 4, 2) := by decide +kernel
theorem dX6_readCommand_15 : decode cX6_readCommand 15 = .ok (.iconst 0, 1) := by decide +kernel
theorem dX6_readCommand_16 : decode cX6_readCommand 16 = .ok (.istore 5, 2) := by decide +kernel
theorem dX6_readCommand_18 : decode cX6_readCommand 18 = .ok (.iload 5, 2) := by decide +kernel
theorem dX6_readCommand_20 : decode cX6_readCommand 20 = .ok (.iload 4, 2) := by decide +kernel
theorem dX6_readCommand_22 : decode cX6_readCommand 22 = .ok (.if_icmp .ge 88, 3) := by decide +kernel
theorem dX6_readCommand_25 : decode cX6_readCommand 25 = .ok (.aload_n 3, 1) := by decide +kernel
theorem dX6_readCommand_26 : decode cX6_readCommand 26 = .ok (.iload 5, 2) := by decide +kernel
theorem dX6_readCommand_28 : decode cX6_readCommand 28 = .ok (.aaload, 1) := by decide +kernel
theorem dX6_readCommand_29 : decode cX6_readCommand 29 = .ok (.astore 6, 2) := by decide +kernel
theorem dX6_readCommand_31 : decode cX6_readCommand 31 = .ok (.aload_n 0, 1) := by decide +kernel
theorem dX6_readCommand_32 : decode cX6_readCommand 32 = .ok (.iload_n 1, 1) := by decide +kernel
theorem dX6_readCommand_33 : decode cX6_readCommand 33 = .ok (.putfield 33, 3) := by decide +kernel
theorem dX6_readCommand_36 : decode cX6_readCommand 36 = .ok (.aload 6, 2) := by decide +kernel
theorem dX6_readCommand_38 : decode cX6_readCommand 38 = .ok (.ifnull 57, 3) := by decide +kernel
theorem dX6_readCommand_41 : decode cX6_readCommand 41 = .ok (.aload_n 0, 1) := by decide +kernel
theorem dX6_readCommand_42 : decode cX6_readCommand 42 = .ok (.aload 6, 2) := by decide +kernel
theorem dX6_readCommand_44 : decode cX6_readCommand 44 = .ok (.getfield 50, 3) := by decide +kernel
theorem dX6_readCommand_47 : decode cX6_readCommand 47 = .ok (.invokevirtual 54, 3) := by decide +kernel
theorem dX6_readCommand_50 : decode cX6_readCommand 50 = .ok (.ifCond .eq 45, 3) := by decide +kernel
theorem dX6_readCommand_53 : decode cX6_readCommand 53 = .ok (.aload_n 0, 1) := by decide +kernel
theorem dX6_readCommand_54 : decode cX6_readCommand 54 = .ok (.getfield 36, 3) := by decide +kernel
theorem dX6_readCommand_57 : decode cX6_readCommand 57 = .ok (.ifCond .lt 36, 3) := by decide +kernel
theorem dX6_readCommand_60 : decode cX6_readCommand 60 = .ok (.aload_n 0, 1) := by decide +kernel
theorem dX6_readCommand_61 : decode cX6_readCommand 61 = .ok (.getfield 36, 3) := by decide +kernel
theorem dX6_readCommand_64 : decode cX6_readCommand 64 = .ok (.aload_n 0, 1) := by decide +kernel
theorem dX6_readCommand_65 : decode cX6_readCommand 65 = .ok (.getfield 17, 3) := by decide +kernel
theorem dX6_readCommand_68 : decode cX6_readCommand 68 = .ok (.arraylength, 1) := by decide +kernel
theorem dX6_readCommand_69 : decode cX6_readCommand 69 = .ok (.if_icmp .ge 24, 3) := by decide +kernel
theorem dX6_readCommand_72 : decode cX6_readCommand 72 = .ok (.aload_n 0, 1) := by decide +kernel
theorem dX6_readCommand_73 : decode cX6_readCommand 73 = .ok (.getfield 17, 3) := by decide +kernel
theorem dX6_readCommand_76 : decode cX6_readCommand 76 = .ok (.aload_n 0, 1) := by decide +kernel
theorem dX6_readCommand_77 : decode cX6_readCommand 77 = .ok (.getfield 36, 3) := by decide +kernel
theorem dX6_readCommand_80 : decode cX6_readCommand 80 = .ok (.aload 6, 2) := by decide +kernel
theorem dX6_readCommand_82 : decode cX6_readCommand 82 = .ok (.aastore, 1) := by decide +kernel
theorem dX6_readCommand_83 : decode cX6_readCommand 83 = .ok (.aload_n 0, 1) := by decide +kernel
theorem dX6_readCommand_84 : decode cX6_readCommand 84 = .ok (.dup, 1) := by decide +kernel
theorem dX6_readCommand_85 : decode cX6_readCommand 85 = .ok (.getfield 36, 3) := by decide +kernel
theorem dX6_readCommand_88 : decode cX6_readCommand 88 = .ok (.iconst 1, 1) := by decide +kernel
theorem dX6_readCommand_89 : decode cX6_readCommand 89 = .ok (.iadd, 1) := by decide +kernel
theorem dX6_readCommand_90 : decode cX6_readCommand 90 = .ok (.putfield 36, 3) := by decide +kernel
theorem dX6_readCommand_93 : decode cX6_readCommand 93 = .ok (.iconst 1, 1) := by decide +kernel
theorem dX6_readCommand_94 : decode cX6_readCommand 94 = .ok (.ireturn, 1) := by decide +kernel
theorem dX6_readCommand_95 : decode cX6_readCommand 95 = .ok (.iload_n 2, 1) := by decide +kernel
theorem dX6_readCommand_96 : decode cX6_readCommand 96 = .ok (.aload_n 0, 1) := by decide +kernel
theorem dX6_readCommand_97 : decode cX6_readCommand 97 = .ok (.getfield 33, 3) := by decide +kernel
theorem dX6_readCommand_100 : decode cX6_readCommand 100 = .ok (.invokestatic 58, 3) := by decide +kernel
theorem dX6_readCommand_103 : decode cX6_readCommand 103 = .ok (.istore_n 2, 1) := by decide +kernel
theorem dX6_readCommand_104 : decode cX6_readCommand 104 = .ok (.iinc 5 1, 3) := by decide +kernel
theorem dX6_readCommand_107 : decode cX6_readCommand 107 = .ok (.goto (-89), 3) := by decide +kernel
theorem dX6_readCommand_110 : decode cX6_readCommand 110 = .ok (.aload_n 0, 1) := by decide +kernel
theorem dX6_readCommand_111 : decode cX6_readCommand 111 = .ok (.iload_n 2, 1) := by decide +kernel
theorem dX6_readCommand_112 : decode cX6_readCommand 112 = .ok (.putfield 33, 3) := by decide +kernel
theorem dX6_readCommand_115 : decode cX6_readCommand 115 = .ok (.iconst 0, 1) := by decide +kernel
theorem dX6_readCommand_116 : decode cX6_readCommand 116 = .ok (.ireturn, 1) := by decide +kernel
theorem dX6_follows_0 : decode cX6_follows 0 = .ok (.iconst 0, 1) := by decide +kernel
theorem dX6_follows_1 : decode cX6_follows 1 = .ok (.istore_n 2, 1) := by decide +kernel
theorem dX6_follows_2 : decode cX6_follows 2 = .ok (.iconst 0, 1) := by decide +kernel
theorem dX6_follows_3 : decode cX6_follows 3 = .ok (.istore_n 3, 1) := by decide +kernel
theorem dX6_follows_4 : decode cX6_follows 4 = .ok (.iload_n 3, 1) := by decide +kernel
theorem dX6_follows_5 : decode cX6_follows 5 = .ok (.aload_n 1, 1) := by decide +kernel
theorem dX6_follows_6 : decode cX6_follows 6 = .ok (.invokevirtual 64, 3) := by decide +kernel
theorem dX6_follows_9 : decode cX6_follows 9 = .ok (.if_icmp .ge 100, 3) := by decide +kernel
theorem dX6_follows_12 : decode cX6_follows 12 = .ok (.aload_n 1, 1) := by decide +kernel
theorem dX6_follows_13 : decode cX6_follows 13 = .ok (.iload_n 3, 1) := by decide +kernel
theorem dX6_follows_14 : decode cX6_follows 14 = .ok (.invokevirtual 69, 3) := by decide +kernel
theorem dX6_follows_17 : decode cX6_follows 17 = .ok (.istore 4, 2) := by decide +kernel
theorem dX6_follows_19 : decode cX6_follows 19 = .ok (.iload 4, 2) := by decide +kernel
theorem dX6_follows_21 : decode cX6_follows 21 = .ok (.bipush 35, 2) := by decide +kernel
theorem dX6_follows_23 : decode cX6_follows 23 = .ok (.if_icmp .eq 10, 3) := by decide +kernel
theorem dX6_follows_26 : decode cX6_follows 26 = .ok (.iload 4, 2) := by decide +kernel
theorem dX6_follows_28 : decode cX6_follows 28 = .ok (.bipush 37, 2) := by decide +kernel
theorem dX6_follows_30 : decode cX6_follows 30 = .ok (.if_icmp .ne 31, 3) := by decide +kernel
theorem dX6_follows_33 : decode cX6_follows 33 = .ok (.aload_n 0, 1) := by decide +kernel
theorem dX6_follows_34 : decode cX6_follows 34 = .ok (.iload_n 2, 1) := by decide +kernel
theorem dX6_follows_35 : decode cX6_follows 35 = .ok (.iload 4, 2) := by decide +kernel
theorem dX6_follows_37 : decode cX6_follows 37 = .ok (.bipush 37, 2) := by decide +kernel
theorem dX6_follows_39 : decode cX6_follows 39 = .ok (.if_icmp .ne 7, 3) := by decide +kernel
theorem dX6_follows_42 : decode cX6_follows 42 = .ok (.iconst 2, 1) := by decide +kernel
theorem dX6_follows_43 : decode cX6_follows 43 = .ok (.goto 4, 3) := by decide +kernel
theorem dX6_follows_46 : decode cX6_follows 46 = .ok (.iconst 1, 1) := by decide +kernel
theorem dX6_follows_47 : decode cX6_follows 47 = .ok (.invokevirtual 72, 3) := by decide +kernel
theorem dX6_follows_50 : decode cX6_follows 50 = .ok (.ifCond .ne 5, 3) := by decide +kernel
theorem dX6_follows_53 : decode cX6_follows 53 = .ok (.iconst 0, 1) := by decide +kernel
theorem dX6_follows_54 : decode cX6_follows 54 = .ok (.ireturn, 1) := by decide +kernel
theorem dX6_follows_55 : decode cX6_follows 55 = .ok (.iinc 2 1, 3) := by decide +kernel
theorem dX6_follows_58 : decode cX6_follows 58 = .ok (.goto 45, 3) := by decide +kernel
theorem dX6_follows_61 : decode cX6_follows 61 = .ok (.aload_n 0, 1) := by decide +kernel
theorem dX6_follows_62 : decode cX6_follows 62 = .ok (.getfield 33, 3) := by decide +kernel
theorem dX6_follows_65 : decode cX6_follows 65 = .ok (.aload_n 0, 1) := by decide +kernel
theorem dX6_follows_66 : decode cX6_follows 66 = .ok (.getfield 25, 3) := by decide +kernel
theorem dX6_follows_69 : decode cX6_follows 69 = .ok (.if_icmp .ge 32, 3) := by decide +kernel
theorem dX6_follows_72 : decode cX6_follows 72 = .ok (.aload_n 0, 1) := by decide +kernel
theorem dX6_follows_73 : decode cX6_follows 73 = .ok (.getfield 9, 3) := by decide +kernel
theorem dX6_follows_76 : decode cX6_follows 76 = .ok (.aload_n 0, 1) := by decide +kernel
theorem dX6_follows_77 : decode cX6_follows 77 = .ok (.getfield 33, 3) := by decide +kernel
theorem dX6_follows_80 : decode cX6_follows 80 = .ok (.invokestatic 43, 3) := by decide +kernel
theorem dX6_follows_83 : decode cX6_follows 83 = .ok (.iload 4, 2) := by decide +kernel
theorem dX6_follows_85 : decode cX6_follows 85 = .ok (.if_icmp .ne 16, 3) := by decide +kernel
theorem dX6_follows_88 : decode cX6_follows 88 = .ok (.aload_n 0, 1) := by decide +kernel
theorem dX6_follows_89 : decode cX6_follows 89 = .ok (.dup, 1) := by decide +kernel
theorem dX6_follows_90 : decode cX6_follows 90 = .ok (.getfield 33, 3) := by decide +kernel
theorem dX6_follows_93 : decode cX6_follows 93 = .ok (.iconst 1, 1) := by decide +kernel
theorem dX6_follows_94 : decode cX6_follows 94 = .ok (.iadd, 1) := by decide +kernel
theorem dX6_follows_95 : decode cX6_follows 95 = .ok (.putfield 33, 3) := by decide +kernel
theorem dX6_follows_98 : decode cX6_follows 98 = .ok (.goto 5, 3) := by decide +kernel
theorem dX6_follows_101 : decode cX6_follows 101 = .ok (.iconst 0, 1) := by decide +kernel
theorem dX6_follows_102 : decode cX6_follows 102 = .ok (.ireturn, 1) := by decide +kernel
theorem dX6_follows_103 : decode cX6_follows 103 = .ok (.iinc 3 1, 3) := by decide +kernel
theorem dX6_follows_106 : decode cX6_follows 106 = .ok (.goto (-102), 3) := by decide +kernel
theorem dX6_follows_109 : decode cX6_follows 109 = .ok (.iconst 1, 1) := by decide +kernel
theorem dX6_follows_110 : decode cX6_follows 110 = .ok (.ireturn, 1) := by decide +kernel
theorem dX6_readNumber_0 : decode cX6_readNumber 0 = .ok (.iconst 0, 1) := by decide +kernel
theorem dX6_readNumber_1 : decode cX6_readNumber 1 = .ok (.istore_n 3, 1) := by decide +kernel
theorem dX6_readNumber_2 : decode cX6_readNumber 2 = .ok (.iconst 0, 1) := by decide +kernel
theorem dX6_readNumber_3 : decode cX6_readNumber 3 = .ok (.istore 4, 2) := by decide +kernel
theorem dX6_readNumber_5 : decode cX6_readNumber 5 = .ok (.iload 4, 2) := by decide +kernel
theorem dX6_readNumber_7 : decode cX6_readNumber 7 = .ok (.iload_n 2, 1) := by decide +kernel
theorem dX6_readNumber_8 : decode cX6_readNumber 8 = .ok (.if_icmp .ge 50, 3) := by decide +kernel
theorem dX6_readNumber_11 : decode cX6_readNumber 11 = .ok (.aload_n 0, 1) := by decide +kernel
theorem dX6_readNumber_12 : decode cX6_readNumber 12 = .ok (.aload_n 0, 1) := by decide +kernel
theorem dX6_readNumber_13 : decode cX6_readNumber 13 = .ok (.getfield 33, 3) := by decide +kernel
theorem dX6_readNumber_16 : decode cX6_readNumber 16 = .ok (.invokevirtual 76, 3) := by decide +kernel
theorem dX6_readNumber_19 : decode cX6_readNumber 19 = .ok (.ifCond .eq 39, 3) := by decide +kernel
theorem dX6_readNumber_22 : decode cX6_readNumber 22 = .ok (.bipush 10, 2) := by decide +kernel
theorem dX6_readNumber_24 : decode cX6_readNumber 24 = .ok (.iload_n 3, 1) := by decide +kernel
theorem dX6_readNumber_25 : decode cX6_readNumber 25 = .ok (.imul, 1) := by decide +kernel
theorem dX6_readNumber_26 : decode cX6_readNumber 26 = .ok (.aload_n 0, 1) := by decide +kernel
theorem dX6_readNumber_27 : decode cX6_readNumber 27 = .ok (.getfield 9, 3) := by decide +kernel
theorem dX6_readNumber_30 : decode cX6_readNumber 30 = .ok (.aload_n 0, 1) := by decide +kernel
theorem dX6_readNumber_31 : decode cX6_readNumber 31 = .ok (.getfield 33, 3) := by decide +kernel
theorem dX6_readNumber_34 : decode cX6_readNumber 34 = .ok (.invokestatic 43, 3) := by decide +kernel
theorem dX6_readNumber_37 : decode cX6_readNumber 37 = .ok (.iadd, 1) := by decide +kernel
theorem dX6_readNumber_38 : decode cX6_readNumber 38 = .ok (.bipush 48, 2) := by decide +kernel
theorem dX6_readNumber_40 : decode cX6_readNumber 40 = .ok (.isub, 1) := by decide +kernel
theorem dX6_readNumber_41 : decode cX6_readNumber 41 = .ok (.istore_n 3, 1) := by decide +kernel
theorem dX6_readNumber_42 : decode cX6_readNumber 42 = .ok (.aload_n 0, 1) := by decide +kernel
theorem dX6_readNumber_43 : decode cX6_readNumber 43 = .ok (.dup, 1) := by decide +kernel
theorem dX6_readNumber_44 : decode cX6_readNumber 44 = .ok (.getfield 33, 3) := by decide +kernel
theorem dX6_readNumber_47 : decode cX6_readNumber 47 = .ok (.iconst 1, 1) := by decide +kernel
theorem dX6_readNumber_48 : decode cX6_readNumber 48 = .ok (.iadd, 1) := by decide +kernel
theorem dX6_readNumber_49 : decode cX6_readNumber 49 = .ok (.putfield 33, 3) := by decide +kernel
theorem dX6_readNumber_52 : decode cX6_readNumber 52 = .ok (.iinc 4 1, 3) := by decide +kernel
theorem dX6_readNumber_55 : decode cX6_readNumber 55 = .ok (.goto (-50), 3) := by decide +kernel
theorem dX6_readNumber_58 : decode cX6_readNumber 58 = .ok (.aload_n 0, 1) := by decide +kernel
theorem dX6_readNumber_59 : decode cX6_readNumber 59 = .ok (.getfield 21, 3) := by decide +kernel
theorem dX6_readNumber_62 : decode cX6_readNumber 62 = .ok (.aload_n 0, 1) := by decide +kernel
theorem dX6_readNumber_63 : decode cX6_readNumber 63 = .ok (.getfield 36, 3) := by decide +kernel
theorem dX6_readNumber_66 : decode cX6_readNumber 66 = .ok (.iconst 4, 1) := by decide +kernel
theorem dX6_readNumber_67 : decode cX6_readNumber 67 = .ok (.imul, 1) := by decide +kernel
theorem dX6_readNumber_68 : decode cX6_readNumber 68 = .ok (.iload_n 1, 1) := by decide +kernel
theorem dX6_readNumber_69 : decode cX6_readNumber 69 = .ok (.iadd, 1) := by decide +kernel
theorem dX6_readNumber_70 : decode cX6_readNumber 70 = .ok (.iload_n 3, 1) := by decide +kernel
theorem dX6_readNumber_71 : decode cX6_readNumber 71 = .ok (.invokestatic 80, 3) := by decide +kernel
theorem dX6_readNumber_74 : decode cX6_readNumber 74 = .ok (.iload 4, 2) := by decide +kernel
theorem dX6_readNumber_76 : decode cX6_readNumber 76 = .ok (.ifCond .le 7, 3) := by decide +kernel
theorem dX6_readNumber_79 : decode cX6_readNumber 79 = .ok (.iconst 1, 1) := by decide +kernel
theorem dX6_readNumber_80 : decode cX6_readNumber 80 = .ok (.goto 4, 3) := by decide +kernel
theorem dX6_readNumber_83 : decode cX6_readNumber 83 = .ok (.iconst 0, 1) := by decide +kernel
theorem dX6_readNumber_84 : decode cX6_readNumber 84 = .ok (.ireturn, 1) := by decide +kernel
theorem dX6_isDigitAt_0 : decode cX6_isDigitAt 0 = .ok (.iload_n 1, 1) := by decide +kernel
theorem dX6_isDigitAt_1 : decode cX6_isDigitAt 1 = .ok (.aload_n 0, 1) := by decide +kernel
theorem dX6_isDigitAt_2 : decode cX6_isDigitAt 2 = .ok (.getfield 25, 3) := by decide +kernel
theorem dX6_isDigitAt_5 : decode cX6_isDigitAt 5 = .ok (.if_icmp .ge 25, 3) := by decide +kernel
theorem dX6_isDigitAt_8 : decode cX6_isDigitAt 8 = .ok (.aload_n 0, 1) := by decide +kernel
theorem dX6_isDigitAt_9 : decode cX6_isDigitAt 9 = .ok (.getfield 9, 3) := by decide +kernel
theorem dX6_isDigitAt_12 : decode cX6_isDigitAt 12 = .ok (.iload_n 1, 1) := by decide +kernel
theorem dX6_isDigitAt_13 : decode cX6_isDigitAt 13 = .ok (.invokestatic 43, 3) := by decide +kernel
theorem dX6_isDigitAt_16 : decode cX6_isDigitAt 16 = .ok (.bipush 48, 2) := by decide +kernel
theorem dX6_isDigitAt_18 : decode cX6_isDigitAt 18 = .ok (.bipush 57, 2) := by decide +kernel
theorem dX6_isDigitAt_20 : decode cX6_isDigitAt 20 = .ok (.invokestatic 84, 3) := by decide +kernel
theorem dX6_isDigitAt_23 : decode cX6_isDigitAt 23 = .ok (.ifCond .eq 7, 3) := by decide +kernel
theorem dX6_isDigitAt_26 : decode cX6_isDigitAt 26 = .ok (.iconst 1, 1) := by decide +kernel
theorem dX6_isDigitAt_27 : decode cX6_isDigitAt 27 = .ok (.goto 4, 3) := by decide +kernel
theorem dX6_isDigitAt_30 : decode cX6_isDigitAt 30 = .ok (.iconst 0, 1) := by decide +kernel
theorem dX6_isDigitAt_31 : decode cX6_isDigitAt 31 = .ok (.ireturn, 1) := by decide +kernel
theorem dX7_init_0 : decode cX7_init 0 = .ok (.aload_n 0, 1) := by decide +kernel
theorem dX7_init_1 : decode cX7_init 1 = .ok (.invokespecial 3, 3) := by decide +kernel
theorem dX7_init_4 : decode cX7_init 4 = .ok (.aload_n 0, 1) := by decide +kernel
theorem dX7_init_5 : decode cX7_init 5 = .ok (.new 9, 3) := by decide +kernel
theorem dX7_init_8 : decode cX7_init 8 = .ok (.dup, 1) := by decide +kernel
theorem dX7_init_9 : decode cX7_init 9 = .ok (.invokespecial 11, 3) := by decide +kernel
theorem dX7_init_12 : decode cX7_init 12 = .ok (.putfield 12, 3) := by decide +kernel
theorem dX7_init_15 : decode cX7_init 15 = .ok (.aload_n 0, 1) := by decide +kernel
theorem dX7_init_16 : decode cX7_init 16 = .ok (.new 9, 3) := by decide +kernel
theorem dX7_init_19 : decode cX7_init 19 = .ok (.dup, 1) := by decide +kernel
theorem dX7_init_20 : decode cX7_init 20 = .ok (.invokespecial 11, 3) := by decide +kernel
theorem dX7_init_23 : decode cX7_init 23 = .ok (.putfield 16, 3) := by decide +kernel
theorem dX7_init_26 : decode cX7_init 26 = .ok (.aload_n 0, 1) := by decide +kernel
theorem dX7_init_27 : decode cX7_init 27 = .ok (.new 9, 3) := by decide +kernel
theorem dX7_init_30 : decode cX7_init 30 = .ok (.dup, 1) := by decide +kernel
theorem dX7_init_31 : decode cX7_init 31 = .ok (.invokespecial 11, 3) := by decide +kernel
theorem dX7_init_34 : decode cX7_init 34 = .ok (.putfield 19, 3) := by decide +kernel
theorem dX7_init_37 : decode cX7_init 37 = .ok (.aload_n 0, 1) := by decide +kernel
theorem dX7_init_38 : decode cX7_init 38 = .ok (.new 22, 3) := by decide +kernel
theorem dX7_init_41 : decode cX7_init 41 = .ok (.dup, 1) := by decide +kernel
theorem dX7_init_42 : decode cX7_init 42 = .ok (.invokespecial 24, 3) := by decide +kernel
theorem dX7_init_45 : decode cX7_init 45 = .ok (.putfield 25, 3) := by decide +kernel
theorem dX7_init_48 : decode cX7_init 48 = .ok (.aload_n 0, 1) := by decide +kernel
theorem dX7_init_49 : decode cX7_init 49 = .ok (.new 29, 3) := by decide +kernel
theorem dX7_init_52 : decode cX7_init 52 = .ok (.dup, 1) := by decide +kernel
theorem dX7_init_53 : decode cX7_init 53 = .ok (.invokespecial 31, 3) := by decide +kernel
theorem dX7_init_56 : decode cX7_init 56 = .ok (.putfield 32, 3) := by decide +kernel
theorem dX7_init_59 : decode cX7_init 59 = .ok (.aload_n 0, 1) := by decide +kernel
theorem dX7_init_60 : decode cX7_init 60 = .ok (.new 36, 3) := by decide +kernel
theorem dX7_init_63 : decode cX7_init 63 = .ok (.dup, 1) := by decide +kernel
theorem dX7_init_64 : decode cX7_init 64 = .ok (.invokespecial 38, 3) := by decide +kernel
theorem dX7_init_67 : decode cX7_init 67 = .ok (.putfield 39, 3) := by decide +kernel
theorem dX7_init_70 : decode cX7_init 70 = .ok (.aload_n 0, 1) := by decide +kernel
theorem dX7_init_71 : decode cX7_init 71 = .ok (.new 43, 3) := by decide +kernel
theorem dX7_init_74 : decode cX7_init 74 = .ok (.dup, 1) := by decide +kernel
theorem dX7_init_75 : decode cX7_init 75 = .ok (.invokespecial 45, 3) := by decide +kernel
theorem dX7_init_78 : decode cX7_init 78 = .ok (.putfield 46, 3) := by decide +kernel
theorem dX7_init_81 : decode cX7_init 81 = .ok (.aload_n 0, 1) := by decide +kernel
theorem dX7_init_82 : decode cX7_init 82 = .ok (.bipush 12, 2) := by decide +kernel
theorem dX7_init_84 : decode cX7_init 84 = .ok (.newarray .int, 2) := by decide +kernel
theorem dX7_init_86 : decode cX7_init 86 = .ok (.putfield 50, 3) := by decide +kernel
theorem dX7_init_89 : decode cX7_init 89 = .ok (.aload_n 0, 1) := by decide +kernel
theorem dX7_init_90 : decode cX7_init 90 = .ok (.iconst (-1), 1) := by decide +kernel
theorem dX7_init_91 : decode cX7_init 91 = .ok (.putfield 54, 3) := by decide +kernel
theorem dX7_init_94 : decode cX7_init 94 = .ok (.aload_n 0, 1) := by decide +kernel
theorem dX7_init_95 : decode cX7_init 95 = .ok (.iconst (-1), 1) := by decide +kernel
theorem dX7_init_96 : decode cX7_init 96 = .ok (.putfield 58, 3) := by decide +kernel
theorem dX7_init_99 : decode cX7_init 99 = .ok (.aload_n 0, 1) := by decide +kernel
theorem dX7_init_100 : decode cX7_init 100 = .ok (.bipush 46, 2) := by decide +kernel
theorem dX7_init_102 : decode cX7_init 102 = .ok (.putfield 61, 3) := by decide +kernel
theorem dX7_init_105 : decode cX7_init 105 = .ok (.return_, 1) := by decide +kernel
theorem dX7_addTask_0 : decode cX7_addTask 0 = .ok (.aload_n 0, 1) := by decide +kernel
theorem dX7_addTask_1 : decode cX7_addTask 1 = .ok (.getfield 12, 3) := by decide +kernel
theorem dX7_addTask_4 : decode cX7_addTask 4 = .ok (.iload_n 1, 1) := by decide +kernel
theorem dX7_addTask_5 : decode cX7_addTask 5 = .ok (.iload_n 2, 1) := by decide +kernel
theorem dX7_addTask_6 : decode cX7_addTask 6 = .ok (.iload_n 3, 1) := by decide +kernel
theorem dX7_addTask_7 : decode cX7_addTask 7 = .ok (.iload 4, 2) := by decide +kernel
theorem dX7_addTask_9 : decode cX7_addTask 9 = .ok (.invokevirtual 65, 3) := by decide +kernel
theorem dX7_addTask_12 : decode cX7_addTask 12 = .ok (.invokestatic 69, 3) := by decide +kernel
theorem dX7_addTask_15 : decode cX7_addTask 15 = .ok (.aload_n 0, 1) := by decide +kernel
theorem dX7_addTask_16 : decode cX7_addTask 16 = .ok (.invokevirtual 73, 3) := by decide +kernel
theorem dX7_addTask_19 : decode cX7_addTask 19 = .ok (.aload_n 0, 1) := by decide +kernel
theorem dX7_addTask_20 : decode cX7_addTask 20 = .ok (.getfield 12, 3) := by decide +kernel
theorem dX7_addTask_23 : decode cX7_addTask 23 = .ok (.iload_n 1, 1) := by decide +kernel
theorem dX7_addTask_24 : decode cX7_addTask 24 = .ok (.iload_n 2, 1) := by decide +kernel
theorem dX7_addTask_25 : decode cX7_addTask 25 = .ok (.iload_n 3, 1) := by decide +kernel
theorem dX7_addTask_26 : decode cX7_addTask 26 = .ok (.iload 4, 2) := by decide +kernel
theorem dX7_addTask_28 : decode cX7_addTask 28 = .ok (.invokevirtual 76, 3) := by decide +kernel
theorem dX7_addTask_31 : decode cX7_addTask 31 = .ok (.ireturn, 1) := by decide +kernel
theorem dX7_removeTask_0 : decode cX7_removeTask 0 = .ok (.aload_n 0, 1) := by decide +kernel
theorem dX7_removeTask_1 : decode cX7_removeTask 1 = .ok (.getfield 12, 3) := by decide +kernel
theorem dX7_removeTask_4 : decode cX7_removeTask 4 = .ok (.iload_n 1, 1) := by decide +kernel
theorem dX7_removeTask_5 : decode cX7_removeTask 5 = .ok (.invokevirtual 80, 3) := by decide +kernel
theorem dX7_removeTask_8 : decode cX7_removeTask 8 = .ok (.invokestatic 69, 3) := by decide +kernel
theorem dX7_removeTask_11 : decode cX7_removeTask 11 = .ok (.aload_n 0, 1) := by decide +kernel
theorem dX7_removeTask_12 : decode cX7_removeTask 12 = .ok (.invokevirtual 73, 3) := by decide +kernel
theorem dX7_removeTask_15 : decode cX7_removeTask 15 = .ok (.aload_n 0, 1) := by decide +kernel
theorem dX7_removeTask_16 : decode cX7_removeTask 16 = .ok (.getfield 12, 3) := by decide +kernel
theorem dX7_removeTask_19 : decode cX7_removeTask 19 = .ok (.iload_n 1, 1) := by decide +kernel
theorem dX7_removeTask_20 : decode cX7_removeTask 20 = .ok (.invokevirtual 84, 3) := by decide +kernel
theorem dX7_removeTask_23 : decode cX7_removeTask 23 = .ok (.aload_n 0, 1) := by decide +kernel
theorem dX7_removeTask_24 : decode cX7_removeTask 24 = .ok (.getfield 12, 3) := by decide +kernel
theorem dX7_removeTask_27 : decode cX7_removeTask 27 = .ok (.getfield 88, 3) := by decide +kernel
theorem dX7_removeTask_30 : decode cX7_removeTask 30 = .ok (.ireturn, 1) := by decide +kernel
theorem dX7_addDependency_0 : decode cX7_addDependency 0 = .ok (.aload_n 0, 1) := by decide +kernel
theorem dX7_addDependency_1 : decode cX7_addDependency 1 = .ok (.getfield 12, 3) := by decide +kernel
theorem dX7_addDependency_4 : decode cX7_addDependency 4 = .ok (.iload_n 1, 1) := by decide +kernel
theorem dX7_addDependency_5 : decode cX7_addDependency 5 = .ok (.iload_n 2, 1) := by decide +kernel
theorem dX7_addDependency_6 : decode cX7_addDependency 6 = .ok (.invokevirtual 91, 3) := by decide +kernel
theorem dX7_addDependency_9 : decode cX7_addDependency 9 = .ok (.invokestatic 69, 3) := by decide +kernel
theorem dX7_addDependency_12 : decode cX7_addDependency 12 = .ok (.aload_n 0, 1) := by decide +kernel
theorem dX7_addDependency_13 : decode cX7_addDependency 13 = .ok (.invokevirtual 73, 3) := by decide +kernel
theorem dX7_addDependency_16 : decode cX7_addDependency 16 = .ok (.aload_n 0, 1) := by decide +kernel
theorem dX7_addDependency_17 : decode cX7_addDependency 17 = .ok (.getfield 12, 3) := by decide +kernel
theorem dX7_addDependency_20 : decode cX7_addDependency 20 = .ok (.iload_n 1, 1) := by decide +kernel
theorem dX7_addDependency_21 : decode cX7_addDependency 21 = .ok (.iload_n 2, 1) := by decide +kernel
theorem dX7_addDependency_22 : decode cX7_addDependency 22 = .ok (.invokevirtual 95, 3) := by decide +kernel
theorem dX7_addDependency_25 : decode cX7_addDependency 25 = .ok (.ifCond .ne 7, 3) := by decide +kernel
theorem dX7_addDependency_28 : decode cX7_addDependency 28 = .ok (.iconst 1, 1) := by decide +kernel
theorem dX7_addDependency_29 : decode cX7_addDependency 29 = .ok (.goto 4, 3) := by decide +kernel
theorem dX7_addDependency_32 : decode cX7_addDependency 32 = .ok (.iconst 0, 1) := by decide +kernel
theorem dX7_addDependency_33 : decode cX7_addDependency 33 = .ok (.istore_n 3, 1) := by decide +kernel
theorem dX7_addDependency_34 : decode cX7_addDependency 34 = .ok (.aload_n 0, 1) := by decide +kernel
theorem dX7_addDependency_35 : decode cX7_addDependency 35 = .ok (.getfield 12, 3) := by decide +kernel
theorem dX7_addDependency_38 : decode cX7_addDependency 38 = .ok (.iload_n 1, 1) := by decide +kernel
theorem dX7_addDependency_39 : decode cX7_addDependency 39 = .ok (.iload_n 2, 1) := by decide +kernel
theorem dX7_addDependency_40 : decode cX7_addDependency 40 = .ok (.invokevirtual 99, 3) := by decide +kernel
theorem dX7_addDependency_43 : decode cX7_addDependency 43 = .ok (.iload_n 3, 1) := by decide +kernel
theorem dX7_addDependency_44 : decode cX7_addDependency 44 = .ok (.ireturn, 1) := by decide +kernel
theorem dX7_removeDependency_0 : decode cX7_removeDependency 0 = .ok (.aload_n 0, 1) := by decide +kernel
theorem dX7_removeDependency_1 : decode cX7_removeDependency 1 = .ok (.getfield 12, 3) := by decide +kernel
theorem dX7_removeDependency_4 : decode cX7_removeDependency 4 = .ok (.iload_n 1, 1) := by decide +kernel
theorem dX7_removeDependency_5 : decode cX7_removeDependency 5 = .ok (.iload_n 2, 1) := by decide +kernel
theorem dX7_removeDependency_6 : decode cX7_removeDependency 6 = .ok (.invokevirtual 103, 3) := by decide +kernel
theorem dX7_removeDependency_9 : decode cX7_removeDependency 9 = .ok (.invokestatic 69, 3) := by decide +kernel
theorem dX7_removeDependency_12 : decode cX7_removeDependency 12 = .ok (.aload_n 0, 1) := by decide +kernel
theorem dX7_removeDependency_13 : decode cX7_removeDependency 13 = .ok (.invokevirtual 73, 3) := by decide +kernel
theorem dX7_removeDependency_16 : decode cX7_removeDependency 16 = .ok (.aload_n 0, 1) := by decide +kernel
theorem dX7_removeDependency_17 : decode cX7_removeDependency 17 = .ok (.getfield 12, 3) := by decide +kernel
theorem dX7_removeDependency_20 : decode cX7_removeDependency 20 = .ok (.iload_n 1, 1) := by decide +kernel
theorem dX7_removeDependency_21 : decode cX7_removeDependency 21 = .ok (.iload_n 2, 1) := by decide +kernel
theorem dX7_removeDependency_22 : decode cX7_removeDependency 22 = .ok (.invokevirtual 95, 3) := by decide +kernel
theorem dX7_removeDependency_25 : decode cX7_removeDependency 25 = .ok (.istore_n 3, 1) := by decide +kernel
theorem dX7_removeDependency_26 : decode cX7_removeDependency 26 = .ok (.aload_n 0, 1) := by decide +kernel
theorem dX7_removeDependency_27 : decode cX7_removeDependency 27 = .ok (.getfield 12, 3) := by decide +kernel
theorem dX7_removeDependency_30 : decode cX7_removeDependency 30 = .ok (.iload_n 1, 1) := by decide +kernel
theorem dX7_removeDependency_31 : decode cX7_removeDependency 31 = .ok (.iload_n 2, 1) := by decide +kernel
theorem dX7_removeDependency_32 : decode cX7_removeDependency 32 = .ok (.invokevirtual 106, 3) := by decide +kernel
theorem dX7_removeDependency_35 : decode cX7_removeDependency 35 = .ok (.iload_n 3, 1) := by decide +kernel
theorem dX7_removeDependency_36 : decode cX7_removeDependency 36 = .ok (.ireturn, 1) := by decide +kernel
theorem dX7_setDuration_0 : decode cX7_setDuration 0 = .ok (.aload_n 0, 1) := by decide +kernel
theorem dX7_setDuration_1 : decode cX7_setDuration 1 = .ok (.getfield 12, 3) := by decide +kernel
theorem dX7_setDuration_4 : decode cX7_setDuration 4 = .ok (.iload_n 1, 1) := by decide +kernel
theorem dX7_setDuration_5 : decode cX7_setDuration 5 = .ok (.iload_n 2, 1) := by decide +kernel
theorem dX7_setDuration_6 : decode cX7_setDuration 6 = .ok (.invokevirtual 109, 3) := by decide +kernel
theorem dX7_setDuration_9 : decode cX7_setDuration 9 = .ok (.invokestatic 69, 3) := by decide +kernel
theorem dX7_setDuration_12 : decode cX7_setDuration 12 = .ok (.aload_n 0, 1) := by decide +kernel
theorem dX7_setDuration_13 : decode cX7_setDuration 13 = .ok (.invokevirtual 73, 3) := by decide +kernel
theorem dX7_setDuration_16 : decode cX7_setDuration 16 = .ok (.aload_n 0, 1) := by decide +kernel
theorem dX7_setDuration_17 : decode cX7_setDuration 17 = .ok (.getfield 12, 3) := by decide +kernel
theorem dX7_setDuration_20 : decode cX7_setDuration 20 = .ok (.getfield 112, 3) := by decide +kernel
theorem dX7_setDuration_23 : decode cX7_setDuration 23 = .ok (.iload_n 1, 1) := by decide +kernel
theorem dX7_setDuration_24 : decode cX7_setDuration 24 = .ok (.invokestatic 115, 3) := by decide +kernel
theorem dX7_setDuration_27 : decode cX7_setDuration 27 = .ok (.istore_n 3, 1) := by decide +kernel
theorem dX7_setDuration_28 : decode cX7_setDuration 28 = .ok (.aload_n 0, 1) := by decide +kernel
theorem dX7_setDuration_29 : decode cX7_setDuration 29 = .ok (.getfield 12, 3) := by decide +kernel
theorem dX7_setDuration_32 : decode cX7_setDuration 32 = .ok (.getfield 112, 3) := by decide +kernel
theorem dX7_setDuration_35 : decode cX7_setDuration 35 = .ok (.iload_n 1, 1) := by decide +kernel
theorem dX7_setDuration_36 : decode cX7_setDuration 36 = .ok (.iload_n 2, 1) := by decide +kernel
theorem dX7_setDuration_37 : decode cX7_setDuration 37 = .ok (.invokestatic 119, 3) := by decide +kernel
theorem dX7_setDuration_40 : decode cX7_setDuration 40 = .ok (.iload_n 3, 1) := by decide +kernel
theorem dX7_setDuration_41 : decode cX7_setDuration 41 = .ok (.ireturn, 1) := by decide +kernel
theorem dX7_setRelease_0 : decode cX7_setRelease 0 = .ok (.aload_n 0, 1) := by decide +kernel
theorem dX7_setRelease_1 : decode cX7_setRelease 1 = .ok (.getfield 12, 3) := by decide +kernel
theorem dX7_setRelease_4 : decode cX7_setRelease 4 = .ok (.iload_n 1, 1) := by decide +kernel
theorem dX7_setRelease_5 : decode cX7_setRelease 5 = .ok (.iload_n 2, 1) := by decide +kernel
theorem dX7_setRelease_6 : decode cX7_setRelease 6 = .ok (.invokevirtual 123, 3) := by decide +kernel
theorem dX7_setRelease_9 : decode cX7_setRelease 9 = .ok (.invokestatic 69, 3) := by decide +kernel
theorem dX7_setRelease_12 : decode cX7_setRelease 12 = .ok (.aload_n 0, 1) := by decide +kernel
theorem dX7_setRelease_13 : decode cX7_setRelease 13 = .ok (.invokevirtual 73, 3) := by decide +kernel
theorem dX7_setRelease_16 : decode cX7_setRelease 16 = .ok (.aload_n 0, 1) := by decide +kernel
theorem dX7_setRelease_17 : decode cX7_setRelease 17 = .ok (.getfield 12, 3) := by decide +kernel
theorem dX7_setRelease_20 : decode cX7_setRelease 20 = .ok (.getfield 126, 3) := by decide +kernel
theorem dX7_setRelease_23 : decode cX7_setRelease 23 = .ok (.iload_n 1, 1) := by decide +kernel
theorem dX7_setRelease_24 : decode cX7_setRelease 24 = .ok (.invokestatic 115, 3) := by decide +kernel
theorem dX7_setRelease_27 : decode cX7_setRelease 27 = .ok (.istore_n 3, 1) := by decide +kernel
theorem dX7_setRelease_28 : decode cX7_setRelease 28 = .ok (.aload_n 0, 1) := by decide +kernel
theorem dX7_setRelease_29 : decode cX7_setRelease 29 = .ok (.getfield 12, 3) := by decide +kernel
theorem dX7_setRelease_32 : decode cX7_setRelease 32 = .ok (.getfield 126, 3) := by decide +kernel
theorem dX7_setRelease_35 : decode cX7_setRelease 35 = .ok (.iload_n 1, 1) := by decide +kernel
theorem dX7_setRelease_36 : decode cX7_setRelease 36 = .ok (.iload_n 2, 1) := by decide +kernel
theorem dX7_setRelease_37 : decode cX7_setRelease 37 = .ok (.invokestatic 119, 3) := by decide +kernel
theorem dX7_setRelease_40 : decode cX7_setRelease 40 = .ok (.iload_n 3, 1) := by decide +kernel
theorem dX7_setRelease_41 : decode cX7_setRelease 41 = .ok (.ireturn, 1) := by decide +kernel
theorem dX7_setLimit_0 : decode cX7_setLimit 0 = .ok (.aload_n 0, 1) := by decide +kernel
theorem dX7_setLimit_1 : decode cX7_setLimit 1 = .ok (.getfield 12, 3) := by decide +kernel
theorem dX7_setLimit_4 : decode cX7_setLimit 4 = .ok (.iload_n 1, 1) := by decide +kernel
theorem dX7_setLimit_5 : decode cX7_setLimit 5 = .ok (.iload_n 2, 1) := by decide +kernel
theorem dX7_setLimit_6 : decode cX7_setLimit 6 = .ok (.invokevirtual 129, 3) := by decide +kernel
theorem dX7_setLimit_9 : decode cX7_setLimit 9 = .ok (.invokestatic 69, 3) := by decide +kernel
theorem dX7_setLimit_12 : decode cX7_setLimit 12 = .ok (.aload_n 0, 1) := by decide +kernel
theorem dX7_setLimit_13 : decode cX7_setLimit 13 = .ok (.invokevirtual 73, 3) := by decide +kernel
theorem dX7_setLimit_16 : decode cX7_setLimit 16 = .ok (.aload_n 0, 1) := by decide +kernel
theorem dX7_setLimit_17 : decode cX7_setLimit 17 = .ok (.getfield 12, 3) := by decide +kernel
theorem dX7_setLimit_20 : decode cX7_setLimit 20 = .ok (.getfield 132, 3) := by decide +kernel
theorem dX7_setLimit_23 : decode cX7_setLimit 23 = .ok (.iload_n 1, 1) := by decide +kernel
theorem dX7_setLimit_24 : decode cX7_setLimit 24 = .ok (.invokestatic 115, 3) := by decide +kernel
theorem dX7_setLimit_27 : decode cX7_setLimit 27 = .ok (.istore_n 3, 1) := by decide +kernel
theorem dX7_setLimit_28 : decode cX7_setLimit 28 = .ok (.aload_n 0, 1) := by decide +kernel
theorem dX7_setLimit_29 : decode cX7_setLimit 29 = .ok (.getfield 12, 3) := by decide +kernel
theorem dX7_setLimit_32 : decode cX7_setLimit 32 = .ok (.getfield 132, 3) := by decide +kernel
theorem dX7_setLimit_35 : decode cX7_setLimit 35 = .ok (.iload_n 1, 1) := by decide +kernel
theorem dX7_setLimit_36 : decode cX7_setLimit 36 = .ok (.iload_n 2, 1) := by decide +kernel
theorem dX7_setLimit_37 : decode cX7_setLimit 37 = .ok (.invokestatic 119, 3) := by decide +kernel
theorem dX7_setLimit_40 : decode cX7_setLimit 40 = .ok (.iload_n 3, 1) := by decide +kernel
theorem dX7_setLimit_41 : decode cX7_setLimit 41 = .ok (.ireturn, 1) := by decide +kernel
theorem dX7_takeBaseline_0 : decode cX7_takeBaseline 0 = .ok (.aload_n 0, 1) := by decide +kernel
theorem dX7_takeBaseline_1 : decode cX7_takeBaseline 1 = .ok (.invokevirtual 73, 3) := by decide +kernel
theorem dX7_takeBaseline_4 : decode cX7_takeBaseline 4 = .ok (.aload_n 0, 1) := by decide +kernel
theorem dX7_takeBaseline_5 : decode cX7_takeBaseline 5 = .ok (.invokevirtual 135, 3) := by decide +kernel
theorem dX7_takeBaseline_8 : decode cX7_takeBaseline 8 = .ok (.astore_n 1, 1) := by decide +kernel
theorem dX7_takeBaseline_9 : decode cX7_takeBaseline 9 = .ok (.aload_n 0, 1) := by decide +kernel
theorem dX7_takeBaseline_10 : decode cX7_takeBaseline 10 = .ok (.getfield 12, 3) := by decide +kernel
theorem dX7_takeBaseline_13 : decode cX7_takeBaseline 13 = .ok (.aload_n 1, 1) := by decide +kernel
theorem dX7_takeBaseline_14 : decode cX7_takeBaseline 14 = .ok (.getfield 139, 3) := by decide +kernel
theorem dX7_takeBaseline_17 : decode cX7_takeBaseline 17 = .ok (.invokevirtual 142, 3) := by decide +kernel
theorem dX7_takeBaseline_20 : decode cX7_takeBaseline 20 = .ok (.aload_n 1, 1) := by decide +kernel
theorem dX7_takeBaseline_21 : decode cX7_takeBaseline 21 = .ok (.getfield 146, 3) := by decide +kernel
theorem dX7_takeBaseline_24 : decode cX7_takeBaseline 24 = .ok (.ireturn, 1) := by decide +kernel
theorem dX7_taskCount_0 : decode cX7_taskCount 0 = .ok (.aload_n 0, 1) := by decide +kernel
theorem dX7_taskCount_1 : decode cX7_taskCount 1 = .ok (.getfield 12, 3) := by decide +kernel
theorem dX7_taskCount_4 : decode cX7_taskCount 4 = .ok (.getfield 88, 3) := by decide +kernel
theorem dX7_taskCount_7 : decode cX7_taskCount 7 = .ok (.ireturn, 1) := by decide +kernel
theorem dX7_duration_0 : decode cX7_duration 0 = .ok (.aload_n 0, 1) := by decide +kernel
theorem dX7_duration_1 : decode cX7_duration 1 = .ok (.iload_n 1, 1) := by decide +kernel
theorem dX7_duration_2 : decode cX7_duration 2 = .ok (.invokevirtual 149, 3) := by decide +kernel
theorem dX7_duration_5 : decode cX7_duration 5 = .ok (.aload_n 0, 1) := by decide +kernel
theorem dX7_duration_6 : decode cX7_duration 6 = .ok (.getfield 12, 3) := by decide +kernel
theorem dX7_duration_9 : decode cX7_duration 9 = .ok (.getfield 112, 3) := by decide +kernel
theorem dX7_duration_12 : decode cX7_duration 12 = .ok (.iload_n 1, 1) := by decide +kernel
theorem dX7_duration_13 : decode cX7_duration 13 = .ok (.invokestatic 115, 3) := by decide +kernel
theorem dX7_duration_16 : decode cX7_duration 16 = .ok (.ireturn, 1) := by decide +kernel
theorem dX7_resource_0 : decode cX7_resource 0 = .ok (.aload_n 0, 1) := by decide +kernel
theorem dX7_resource_1 : decode cX7_resource 1 = .ok (.iload_n 1, 1) := by decide +kernel
theorem dX7_resource_2 : decode cX7_resource 2 = .ok (.invokevirtual 149, 3) := by decide +kernel
theorem dX7_resource_5 : decode cX7_resource 5 = .ok (.aload_n 0, 1) := by decide +kernel
theorem dX7_resource_6 : decode cX7_resource 6 = .ok (.getfield 12, 3) := by decide +kernel
theorem dX7_resource_9 : decode cX7_resource 9 = .ok (.getfield 152, 3) := by decide +kernel
theorem dX7_resource_12 : decode cX7_resource 12 = .ok (.iload_n 1, 1) := by decide +kernel
theorem dX7_resource_13 : decode cX7_resource 13 = .ok (.invokestatic 115, 3) := by decide +kernel
theorem dX7_resource_16 : decode cX7_resource 16 = .ok (.ireturn, 1) := by decide +kernel
theorem dX7_demand_0 : decode cX7_demand 0 = .ok (.aload_n 0, 1) := by decide +kernel
theorem dX7_demand_1 : decode cX7_demand 1 = .ok (.iload_n 1, 1) := by decide +kernel
theorem dX7_demand_2 : decode cX7_demand 2 = .ok (.invokevirtual 149, 3) := by decide +kernel
theorem dX7_demand_5 : decode cX7_demand 5 = .ok (.aload_n 0, 1) := by decide +kernel
theorem dX7_demand_6 : decode cX7_demand 6 = .ok (.getfield 12, 3) := by decide +kernel
theorem dX7_demand_9 : decode cX7_demand 9 = .ok (.getfield 155, 3) := by decide +kernel
theorem dX7_demand_12 : decode cX7_demand 12 = .ok (.iload_n 1, 1) := by decide +kernel
theorem dX7_demand_13 : decode cX7_demand 13 = .ok (.invokestatic 115, 3) := by decide +kernel
theorem dX7_demand_16 : decode cX7_demand 16 = .ok (.ireturn, 1) := by decide +kernel
theorem dX7_release_0 : decode cX7_release 0 = .ok (.aload_n 0, 1) := by decide +kernel
theorem dX7_release_1 : decode cX7_release 1 = .ok (.iload_n 1, 1) := by decide +kernel
theorem dX7_release_2 : decode cX7_release 2 = .ok (.invokevirtual 149, 3) := by decide +kernel
theorem dX7_release_5 : decode cX7_release 5 = .ok (.aload_n 0, 1) := by decide +kernel
theorem dX7_release_6 : decode cX7_release 6 = .ok (.getfield 12, 3) := by decide +kernel
theorem dX7_release_9 : decode cX7_release 9 = .ok (.getfield 126, 3) := by decide +kernel
theorem dX7_release_12 : decode cX7_release 12 = .ok (.iload_n 1, 1) := by decide +kernel
theorem dX7_release_13 : decode cX7_release 13 = .ok (.invokestatic 115, 3) := by decide +kernel
theorem dX7_release_16 : decode cX7_release 16 = .ok (.ireturn, 1) := by decide +kernel
theorem dX7_limit_0 : decode cX7_limit 0 = .ok (.iload_n 1, 1) := by decide +kernel
theorem dX7_limit_1 : decode cX7_limit 1 = .ok (.invokestatic 158, 3) := by decide +kernel
theorem dX7_limit_4 : decode cX7_limit 4 = .ok (.aload_n 0, 1) := by decide +kernel
theorem dX7_limit_5 : decode cX7_limit 5 = .ok (.getfield 12, 3) := by decide +kernel
theorem dX7_limit_8 : decode cX7_limit 8 = .ok (.getfield 132, 3) := by decide +kernel
theorem dX7_limit_11 : decode cX7_limit 11 = .ok (.iload_n 1, 1) := by decide +kernel
theorem dX7_limit_12 : decode cX7_limit 12 = .ok (.invokestatic 115, 3) := by decide +kernel
theorem dX7_limit_15 : decode cX7_limit 15 = .ok (.ireturn, 1) := by decide +kernel
theorem dX7_dependsDirectly_0 : decode cX7_dependsDirectly 0 = .ok (.aload_n 0, 1) := by decide +kernel
theorem dX7_dependsDirectly_1 : decode cX7_dependsDirectly 1 = .ok (.iload_n 1, 1) := by decide +kernel
theorem dX7_dependsDirectly_2 : decode cX7_dependsDirectly 2 = .ok (.invokevirtual 149, 3) := by decide +kernel
theorem dX7_dependsDirectly_5 : decode cX7_dependsDirectly 5 = .ok (.aload_n 0, 1) := by decide +kernel
theorem dX7_dependsDirectly_6 : decode cX7_dependsDirectly 6 = .ok (.iload_n 2, 1) := by decide +kernel
theorem dX7_dependsDirectly_7 : decode cX7_dependsDirectly 7 = .ok (.invokevirtual 149, 3) := by decide +kernel
theorem dX7_dependsDirectly_10 : decode cX7_dependsDirectly 10 = .ok (.aload_n 0, 1) := by decide +kernel
theorem dX7_dependsDirectly_11 : decode cX7_dependsDirectly 11 = .ok (.getfield 12, 3) := by decide +kernel
theorem dX7_dependsDirectly_14 : decode cX7_dependsDirectly 14 = .ok (.iload_n 1, 1) := by decide +kernel
theorem dX7_dependsDirectly_15 : decode cX7_dependsDirectly 15 = .ok (.iload_n 2, 1) := by decide +kernel
theorem dX7_dependsDirectly_16 : decode cX7_dependsDirectly 16 = .ok (.invokevirtual 95, 3) := by decide +kernel
theorem dX7_dependsDirectly_19 : decode cX7_dependsDirectly 19 = .ok (.ireturn, 1) := by decide +kernel
theorem dX7_depends_0 : decode cX7_depends 0 = .ok (.aload_n 0, 1) := by decide +kernel
theorem dX7_depends_1 : decode cX7_depends 1 = .ok (.iload_n 1, 1) := by decide +kernel
theorem dX7_depends_2 : decode cX7_depends 2 = .ok (.invokevirtual 149, 3) := by decide +kernel
theorem dX7_depends_5 : decode cX7_depends 5 = .ok (.aload_n 0, 1) := by decide +kernel
theorem dX7_depends_6 : decode cX7_depends 6 = .ok (.iload_n 2, 1) := by decide +kernel
theorem dX7_depends_7 : decode cX7_depends 7 = .ok (.invokevirtual 149, 3) := by decide +kernel
theorem dX7_depends_10 : decode cX7_depends 10 = .ok (.aload_n 0, 1) := by decide +kernel
theorem dX7_depends_11 : decode cX7_depends 11 = .ok (.getfield 12, 3) := by decide +kernel
theorem dX7_depends_14 : decode cX7_depends 14 = .ok (.iload_n 1, 1) := by decide +kernel
theorem dX7_depends_15 : decode cX7_depends 15 = .ok (.iload_n 2, 1) := by decide +kernel
theorem dX7_depends_16 : decode cX7_depends 16 = .ok (.invokevirtual 161, 3) := by decide +kernel
theorem dX7_depends_19 : decode cX7_depends 19 = .ok (.ireturn, 1) := by decide +kernel
theorem dX7_dependsByClosure_0 : decode cX7_dependsByClosure 0 = .ok (.aload_n 0, 1) := by decide +kernel
theorem dX7_dependsByClosure_1 : decode cX7_dependsByClosure 1 = .ok (.iload_n 1, 1) := by decide +kernel
theorem dX7_dependsByClosure_2 : decode cX7_dependsByClosure 2 = .ok (.invokevirtual 149, 3) := by decide +kernel
theorem dX7_dependsByClosure_5 : decode cX7_dependsByClosure 5 = .ok (.aload_n 0, 1) := by decide +kernel
theorem dX7_dependsByClosure_6 : decode cX7_dependsByClosure 6 = .ok (.iload_n 2, 1) := by decide +kernel
theorem dX7_dependsByClosure_7 : decode cX7_dependsByClosure 7 = .ok (.invokevirtual 149, 3) := by decide +kernel
theorem dX7_dependsByClosure_10 : decode cX7_dependsByClosure 10 = .ok (.aload_n 0, 1) := by decide +kernel
theorem dX7_dependsByClosure_11 : decode cX7_dependsByClosure 11 = .ok (.invokevirtual 135, 3) := by decide +kernel
theorem dX7_dependsByClosure_14 : decode cX7_dependsByClosure 14 = .ok (.getfield 164, 3) := by decide +kernel
theorem dX7_dependsByClosure_17 : decode cX7_dependsByClosure 17 = .ok (.iload_n 1, 1) := by decide +kernel
theorem dX7_dependsByClosure_18 : decode cX7_dependsByClosure 18 = .ok (.invokestatic 115, 3) := by decide +kernel
theorem dX7_dependsByClosure_21 : decode cX7_dependsByClosure 21 = .ok (.iload_n 2, 1) := by decide +kernel
theorem dX7_dependsByClosure_22 : decode cX7_dependsByClosure 22 = .ok (.invokestatic 167, 3) := by decide +kernel
theorem dX7_dependsByClosure_25 : decode cX7_dependsByClosure 25 = .ok (.ireturn, 1) := by decide +kernel
theorem dX7_neededCount_0 : decode cX7_neededCount 0 = .ok (.aload_n 0, 1) := by decide +kernel
theorem dX7_neededCount_1 : decode cX7_neededCount 1 = .ok (.iload_n 1, 1) := by decide +kernel
theorem dX7_neededCount_2 : decode cX7_neededCount 2 = .ok (.invokevirtual 149, 3) := by decide +kernel
theorem dX7_neededCount_5 : decode cX7_neededCount 5 = .ok (.aload_n 0, 1) := by decide +kernel
theorem dX7_neededCount_6 : decode cX7_neededCount 6 = .ok (.getfield 12, 3) := by decide +kernel
theorem dX7_neededCount_9 : decode cX7_neededCount 9 = .ok (.getfield 170, 3) := by decide +kernel
theorem dX7_neededCount_12 : decode cX7_neededCount 12 = .ok (.iload_n 1, 1) := by decide +kernel
theorem dX7_neededCount_13 : decode cX7_neededCount 13 = .ok (.invokestatic 115, 3) := by decide +kernel
theorem dX7_neededCount_16 : decode cX7_neededCount 16 = .ok (.invokestatic 173, 3) := by decide +kernel
theorem dX7_neededCount_19 : decode cX7_neededCount 19 = .ok (.ireturn, 1) := by decide +kernel
theorem dX7_dependentCount_0 : decode cX7_dependentCount 0 = .ok (.aload_n 0, 1) := by decide +kernel
theorem dX7_dependentCount_1 : decode cX7_dependentCount 1 = .ok (.iload_n 1, 1) := by decide +kernel
theorem dX7_dependentCount_2 : decode cX7_dependentCount 2 = .ok (.invokevirtual 149, 3) := by decide +kernel
theorem dX7_dependentCount_5 : decode cX7_dependentCount 5 = .ok (.iconst 0, 1) := by decide +kernel
theorem dX7_dependentCount_6 : decode cX7_dependentCount 6 = .ok (.istore_n 2, 1) := by decide +kernel
theorem dX7_dependentCount_7 : decode cX7_dependentCount 7 = .ok (.iconst 0, 1) := by decide +kernel
theorem dX7_dependentCount_8 : decode cX7_dependentCount 8 = .ok (.istore_n 3, 1) := by decide +kernel
theorem dX7_dependentCount_9 : decode cX7_dependentCount 9 = .ok (.iload_n 3, 1) := by decide +kernel
theorem dX7_dependentCount_10 : decode cX7_dependentCount 10 = .ok (.aload_n 0, 1) := by decide +kernel
theorem dX7_dependentCount_11 : decode cX7_dependentCount 11 = .ok (.getfield 12, 3) := by decide +kernel
theorem dX7_dependentCount_14 : decode cX7_dependentCount 14 = .ok (.getfield 88, 3) := by decide +kernel
theorem dX7_dependentCount_17 : decode cX7_dependentCount 17 = .ok (.if_icmp .ge 24, 3) := by decide +kernel
theorem dX7_dependentCount_20 : decode cX7_dependentCount 20 = .ok (.aload_n 0, 1) := by decide +kernel
theorem dX7_dependentCount_21 : decode cX7_dependentCount 21 = .ok (.getfield 12, 3) := by decide +kernel
theorem dX7_dependentCount_24 : decode cX7_dependentCount 24 = .ok (.iload_n 3, 1) := by decide +kernel
theorem dX7_dependentCount_25 : decode cX7_dependentCount 25 = .ok (.iload_n 1, 1) := by decide +kernel
theorem dX7_dependentCount_26 : decode cX7_dependentCount 26 = .ok (.invokevirtual 95, 3) := by decide +kernel
theorem dX7_dependentCount_29 : decode cX7_dependentCount 29 = .ok (.ifCond .eq 6, 3) := by decide +kernel
theorem dX7_dependentCount_32 : decode cX7_dependentCount 32 = .ok (.iinc 2 1, 3) := by decide +kernel
theorem dX7_dependentCount_35 : decode cX7_dependentCount 35 = .ok (.iinc 3 1, 3) := by decide +kernel
theorem dX7_dependentCount_38 : decode cX7_dependentCount 38 = .ok (.goto (-29), 3) := by decide +kernel
theorem dX7_dependentCount_41 : decode cX7_dependentCount 41 = .ok (.iload_n 2, 1) := by decide +kernel
theorem dX7_dependentCount_42 : decode cX7_dependentCount 42 = .ok (.ireturn, 1) := by decide +kernel
theorem dX7_taskInOrder_0 : decode cX7_taskInOrder 0 = .ok (.iload_n 1, 1) := by decide +kernel
theorem dX7_taskInOrder_1 : decode cX7_taskInOrder 1 = .ok (.iconst 0, 1) := by decide +kernel
theorem dX7_taskInOrder_2 : decode cX7_taskInOrder 2 = .ok (.aload_n 0, 1) := by decide +kernel
theorem dX7_taskInOrder_3 : decode cX7_taskInOrder 3 = .ok (.getfield 12, 3) := by decide +kernel
theorem dX7_taskInOrder_6 : decode cX7_taskInOrder 6 = .ok (.getfield 88, 3) := by decide +kernel
theorem dX7_taskInOrder_9 : decode cX7_taskInOrder 9 = .ok (.iconst 1, 1) := by decide +kernel
theorem dX7_taskInOrder_10 : decode cX7_taskInOrder 10 = .ok (.isub, 1) := by decide +kernel
theorem dX7_taskInOrder_11 : decode cX7_taskInOrder 11 = .ok (.invokestatic 179, 3) := by decide +kernel
theorem dX7_taskInOrder_14 : decode cX7_taskInOrder 14 = .ok (.ifCond .ne 13, 3) := by decide +kernel
theorem dX7_taskInOrder_17 : decode cX7_taskInOrder 17 = .ok (.new 183, 3) := by decide +kernel
theorem dX7_taskInOrder_20 : decode cX7_taskInOrder 20 = .ok (.dup, 1) := by decide +kernel
theorem dX7_taskInOrder_21 : decode cX7_taskInOrder 21 = .ok (.ldc 185, 2) := by decide +kernel
theorem dX7_taskInOrder_23 : decode cX7_taskInOrder 23 = .ok (.invokespecial 187, 3) := by decide +kernel
theorem dX7_taskInOrder_26 : decode cX7_taskInOrder 26 = .ok (.athrow, 1) := by decide +kernel
theorem dX7_taskInOrder_27 : decode cX7_taskInOrder 27 = .ok (.aload_n 0, 1) := by decide +kernel
theorem dX7_taskInOrder_28 : decode cX7_taskInOrder 28 = .ok (.invokevirtual 135, 3) := by decide +kernel
theorem dX7_taskInOrder_31 : decode cX7_taskInOrder 31 = .ok (.getfield 190, 3) := by decide +kernel
theorem dX7_taskInOrder_34 : decode cX7_taskInOrder 34 = .ok (.iload_n 1, 1) := by decide +kernel
theorem dX7_taskInOrder_35 : decode cX7_taskInOrder 35 = .ok (.invokestatic 115, 3) := by decide +kernel
theorem dX7_taskInOrder_38 : decode cX7_taskInOrder 38 = .ok (.ireturn, 1) := by decide +kernel
theorem dX7_earliestStart_0 : decode cX7_earliestStart 0 = .ok (.aload_n 0, 1) := by decide +kernel
theorem dX7_earliestStart_1 : decode cX7_earliestStart 1 = .ok (.iload_n 1, 1) := by decide +kernel
theorem dX7_earliestStart_2 : decode cX7_earliestStart 2 = .ok (.invokevirtual 149, 3) := by decide +kernel
theorem dX7_earliestStart_5 : decode cX7_earliestStart 5 = .ok (.aload_n 0, 1) := by decide +kernel
theorem dX7_earliestStart_6 : decode cX7_earliestStart 6 = .ok (.invokevirtual 135, 3) := by decide +kernel
theorem dX7_earliestStart_9 : decode cX7_earliestStart 9 = .ok (.getfield 193, 3) := by decide +kernel
theorem dX7_earliestStart_12 : decode cX7_earliestStart 12 = .ok (.iload_n 1, 1) := by decide +kernel
theorem dX7_earliestStart_13 : decode cX7_earliestStart 13 = .ok (.invokestatic 115, 3) := by decide +kernel
theorem dX7_earliestStart_16 : decode cX7_earliestStart 16 = .ok (.ireturn, 1) := by decide +kernel
theorem dX7_earliestStartByRounds_0 : decode cX7_earliestStartByRounds 0 = .ok (.aload_n 0, 1) := by decide +kernel
theorem dX7_earliestStartByRounds_1 : decode cX7_earliestStartByRounds 1 = .ok (.iload_n 1, 1) := by decide +kernel
theorem dX7_earliestStartByRounds_2 : decode cX7_earliestStartByRounds 2 = .ok (.invokevirtual 149, 3) := by decide +kernel
theorem dX7_earliestStartByRounds_5 : decode cX7_earliestStartByRounds 5 = .ok (.aload_n 0, 1) := by decide +kernel
theorem dX7_earliestStartByRounds_6 : decode cX7_earliestStartByRounds 6 = .ok (.invokevirtual 135, 3) := by decide +kernel
theorem dX7_earliestStartByRounds_9 : decode cX7_earliestStartByRounds 9 = .ok (.getfield 196, 3) := by decide +kernel
theorem dX7_earliestStartByRounds_12 : decode cX7_earliestStartByRounds 12 = .ok (.iload_n 1, 1) := by decide +kernel
theorem dX7_earliestStartByRounds_13 : decode cX7_earliestStartByRounds 13 = .ok (.invokestatic 115, 3) := by decide +kernel
theorem dX7_earliestStartByRounds_16 : decode cX7_earliestStartByRounds 16 = .ok (.ireturn, 1) := by decide +kernel
theorem dX7_latestStart_0 : decode cX7_latestStart 0 = .ok (.aload_n 0, 1) := by decide +kernel
theorem dX7_latestStart_1 : decode cX7_latestStart 1 = .ok (.iload_n 1, 1) := by decide +kernel
theorem dX7_latestStart_2 : decode cX7_latestStart 2 = .ok (.invokevirtual 149, 3) := by decide +kernel
theorem dX7_latestStart_5 : decode cX7_latestStart 5 = .ok (.aload_n 0, 1) := by decide +kernel
theorem dX7_latestStart_6 : decode cX7_latestStart 6 = .ok (.invokevirtual 135, 3) := by decide +kernel
theorem dX7_latestStart_9 : decode cX7_latestStart 9 = .ok (.getfield 199, 3) := by decide +kernel
theorem dX7_latestStart_12 : decode cX7_latestStart 12 = .ok (.iload_n 1, 1) := by decide +kernel
theorem dX7_latestStart_13 : decode cX7_latestStart 13 = .ok (.invokestatic 115, 3) := by decide +kernel
theorem dX7_latestStart_16 : decode cX7_latestStart 16 = .ok (.ireturn, 1) := by decide +kernel
theorem dX7_slack_0 : decode cX7_slack 0 = .ok (.aload_n 0, 1) := by decide +kernel
theorem dX7_slack_1 : decode cX7_slack 1 = .ok (.iload_n 1, 1) := by decide +kernel
theorem dX7_slack_2 : decode cX7_slack 2 = .ok (.invokevirtual 149, 3) := by decide +kernel
theorem dX7_slack_5 : decode cX7_slack 5 = .ok (.aload_n 0, 1) := by decide +kernel
theorem dX7_slack_6 : decode cX7_slack 6 = .ok (.invokevirtual 135, 3) := by decide +kernel
theorem dX7_slack_9 : decode cX7_slack 9 = .ok (.iload_n 1, 1) := by decide +kernel
theorem dX7_slack_10 : decode cX7_slack 10 = .ok (.invokevirtual 202, 3) := by decide +kernel
theorem dX7_slack_13 : decode cX7_slack 13 = .ok (.ireturn, 1) := by decide +kernel
theorem dX7_isCritical_0 : decode cX7_isCritical 0 = .ok (.aload_n 0, 1) := by decide +kernel
theorem dX7_isCritical_1 : decode cX7_isCritical 1 = .ok (.iload_n 1, 1) := by decide +kernel
theorem dX7_isCritical_2 : decode cX7_isCritical 2 = .ok (.invokevirtual 149, 3) := by decide +kernel
theorem dX7_isCritical_5 : decode cX7_isCritical 5 = .ok (.aload_n 0, 1) := by decide +kernel
theorem dX7_isCritical_6 : decode cX7_isCritical 6 = .ok (.invokevirtual 135, 3) := by decide +kernel
theorem dX7_isCritical_9 : decode cX7_isCritical 9 = .ok (.iload_n 1, 1) := by decide +kernel
theorem dX7_isCritical_10 : decode cX7_isCritical 10 = .ok (.invokevirtual 202, 3) := by decide +kernel
theorem dX7_isCritical_13 : decode cX7_isCritical 13 = .ok (.ifCond .ne 7, 3) := by decide +kernel
theorem dX7_isCritical_16 : decode cX7_isCritical 16 = .ok (.iconst 1, 1) := by decide +kernel
theorem dX7_isCritical_17 : decode cX7_isCritical 17 = .ok (.goto 4, 3) := by decide +kernel
theorem dX7_isCritical_20 : decode cX7_isCritical 20 = .ok (.iconst 0, 1) := by decide +kernel
theorem dX7_isCritical_21 : decode cX7_isCritical 21 = .ok (.ireturn, 1) := by decide +kernel
theorem dX7_projectLength_0 : decode cX7_projectLength 0 = .ok (.aload_n 0, 1) := by decide +kernel
theorem dX7_projectLength_1 : decode cX7_projectLength 1 = .ok (.invokevirtual 135, 3) := by decide +kernel
theorem dX7_projectLength_4 : decode cX7_projectLength 4 = .ok (.getfield 205, 3) := by decide +kernel
theorem dX7_projectLength_7 : decode cX7_projectLength 7 = .ok (.ireturn, 1) := by decide +kernel
theorem dX7_criticalCount_0 : decode cX7_criticalCount 0 = .ok (.aload_n 0, 1) := by decide +kernel
theorem dX7_criticalCount_1 : decode cX7_criticalCount 1 = .ok (.invokevirtual 135, 3) := by decide +kernel
theorem dX7_criticalCount_4 : decode cX7_criticalCount 4 = .ok (.astore_n 1, 1) := by decide +kernel
theorem dX7_criticalCount_5 : decode cX7_criticalCount 5 = .ok (.iconst 0, 1) := by decide +kernel
theorem dX7_criticalCount_6 : decode cX7_criticalCount 6 = .ok (.istore_n 2, 1) := by decide +kernel
theorem dX7_criticalCount_7 : decode cX7_criticalCount 7 = .ok (.iconst 0, 1) := by decide +kernel
theorem dX7_criticalCount_8 : decode cX7_criticalCount 8 = .ok (.istore_n 3, 1) := by decide +kernel
theorem dX7_criticalCount_9 : decode cX7_criticalCount 9 = .ok (.iload_n 3, 1) := by decide +kernel
theorem dX7_criticalCount_10 : decode cX7_criticalCount 10 = .ok (.aload_n 0, 1) := by decide +kernel
theorem dX7_criticalCount_11 : decode cX7_criticalCount 11 = .ok (.getfield 12, 3) := by decide +kernel
theorem dX7_criticalCount_14 : decode cX7_criticalCount 14 = .ok (.getfield 88, 3) := by decide +kernel
theorem dX7_criticalCount_17 : decode cX7_criticalCount 17 = .ok (.if_icmp .ge 20, 3) := by decide +kernel
theorem dX7_criticalCount_20 : decode cX7_criticalCount 20 = .ok (.aload_n 1, 1) := by decide +kernel
theorem dX7_criticalCount_21 : decode cX7_criticalCount 21 = .ok (.iload_n 3, 1) := by decide +kernel
theorem dX7_criticalCount_22 : decode cX7_criticalCount 22 = .ok (.invokevirtual 202, 3) := by decide +kernel
theorem dX7_criticalCount_25 : decode cX7_criticalCount 25 = .ok (.ifCond .ne 6, 3) := by decide +kernel
theorem dX7_criticalCount_28 : decode cX7_criticalCount 28 = .ok (.iinc 2 1, 3) := by decide +kernel
theorem dX7_criticalCount_31 : decode cX7_criticalCount 31 = .ok (.iinc 3 1, 3) := by decide +kernel
theorem dX7_criticalCount_34 : decode cX7_criticalCount 34 = .ok (.goto (-25), 3) := by decide +kernel
theorem dX7_criticalCount_37 : decode cX7_criticalCount 37 = .ok (.iload_n 2, 1) := by decide +kernel
theorem dX7_criticalCount_38 : decode cX7_criticalCount 38 = .ok (.ireturn, 1) := by decide +kernel
theorem dX7_lastTask_0 : decode cX7_lastTask 0 = .ok (.aload_n 0, 1) := by decide +kernel
theorem dX7_lastTask_1 : decode cX7_lastTask 1 = .ok (.invokevirtual 135, 3) := by decide +kernel
theorem dX7_lastTask_4 : decode cX7_lastTask 4 = .ok (.astore_n 1, 1) := by decide +kernel
theorem dX7_lastTask_5 : decode cX7_lastTask 5 = .ok (.iconst 0, 1) := by decide +kernel
theorem dX7_lastTask_6 : decode cX7_lastTask 6 = .ok (.istore_n 2, 1) := by decide +kernel
theorem dX7_lastTask_7 : decode cX7_lastTask 7 = .ok (.iload_n 2, 1) := by decide +kernel
theorem dX7_lastTask_8 : decode cX7_lastTask 8 = .ok (.aload_n 0, 1) := by decide +kernel
theorem dX7_lastTask_9 : decode cX7_lastTask 9 = .ok (.getfield 12, 3) := by decide +kernel
theorem dX7_lastTask_12 : decode cX7_lastTask 12 = .ok (.getfield 88, 3) := by decide +kernel
theorem dX7_lastTask_15 : decode cX7_lastTask 15 = .ok (.if_icmp .ge 38, 3) := by decide +kernel
theorem dX7_lastTask_18 : decode cX7_lastTask 18 = .ok (.aload_n 1, 1) := by decide +kernel
theorem dX7_lastTask_19 : decode cX7_lastTask 19 = .ok (.getfield 193, 3) := by decide +kernel
theorem dX7_lastTask_22 : decode cX7_lastTask 22 = .ok (.iload_n 2, 1) := by decide +kernel
theorem dX7_lastTask_23 : decode cX7_lastTask 23 = .ok (.invokestatic 115, 3) := by decide +kernel
theorem dX7_lastTask_26 : decode cX7_lastTask 26 = .ok (.aload_n 0, 1) := by decide +kernel
theorem dX7_lastTask_27 : decode cX7_lastTask 27 = .ok (.getfield 12, 3) := by decide +kernel
theorem dX7_lastTask_30 : decode cX7_lastTask 30 = .ok (.getfield 112, 3) := by decide +kernel
theorem dX7_lastTask_33 : decode cX7_lastTask 33 = .ok (.iload_n 2, 1) := by decide +kernel
theorem dX7_lastTask_34 : decode cX7_lastTask 34 = .ok (.invokestatic 115, 3) := by decide +kernel
theorem dX7_lastTask_37 : decode cX7_lastTask 37 = .ok (.iadd, 1) := by decide +kernel
theorem dX7_lastTask_38 : decode cX7_lastTask 38 = .ok (.aload_n 1, 1) := by decide +kernel
theorem dX7_lastTask_39 : decode cX7_lastTask 39 = .ok (.getfield 205, 3) := by decide +kernel
theorem dX7_lastTask_42 : decode cX7_lastTask 42 = .ok (.if_icmp .ne 5, 3) := by decide +kernel
theorem dX7_lastTask_45 : decode cX7_lastTask 45 = .ok (.iload_n 2, 1) := by decide +kernel
theorem dX7_lastTask_46 : decode cX7_lastTask 46 = .ok (.ireturn, 1) := by decide +kernel
theorem dX7_lastTask_47 : decode cX7_lastTask 47 = .ok (.iinc 2 1, 3) := by decide +kernel
theorem dX7_lastTask_50 : decode cX7_lastTask 50 = .ok (.goto (-43), 3) := by decide +kernel
theorem dX7_lastTask_53 : decode cX7_lastTask 53 = .ok (.new 183, 3) := by decide +kernel
theorem dX7_lastTask_56 : decode cX7_lastTask 56 = .ok (.dup, 1) := by decide +kernel
theorem dX7_lastTask_57 : decode cX7_lastTask 57 = .ok (.ldc 208, 2) := by decide +kernel
theorem dX7_lastTask_59 : decode cX7_lastTask 59 = .ok (.invokespecial 187, 3) := by decide +kernel
theorem dX7_lastTask_62 : decode cX7_lastTask 62 = .ok (.athrow, 1) := by decide +kernel
theorem dX7_levelledStart_0 : decode cX7_levelledStart 0 = .ok (.aload_n 0, 1) := by decide +kernel
theorem dX7_levelledStart_1 : decode cX7_levelledStart 1 = .ok (.iload_n 1, 1) := by decide +kernel
theorem dX7_levelledStart_2 : decode cX7_levelledStart 2 = .ok (.invokevirtual 149, 3) := by decide +kernel
theorem dX7_levelledStart_5 : decode cX7_levelledStart 5 = .ok (.aload_n 0, 1) := by decide +kernel
theorem dX7_levelledStart_6 : decode cX7_levelledStart 6 = .ok (.invokevirtual 135, 3) := by decide +kernel
theorem dX7_levelledStart_9 : decode cX7_levelledStart 9 = .ok (.getfield 139, 3) := by decide +kernel
theorem dX7_levelledStart_12 : decode cX7_levelledStart 12 = .ok (.iload_n 1, 1) := by decide +kernel
theorem dX7_levelledStart_13 : decode cX7_levelledStart 13 = .ok (.invokestatic 115, 3) := by decide +kernel
theorem dX7_levelledStart_16 : decode cX7_levelledStart 16 = .ok (.ireturn, 1) := by decide +kernel
theorem dX7_levelledLength_0 : decode cX7_levelledLength 0 = .ok (.aload_n 0, 1) := by decide +kernel
theorem dX7_levelledLength_1 : decode cX7_levelledLength 1 = .ok (.invokevirtual 135, 3) := by decide +kernel
theorem dX7_levelledLength_4 : decode cX7_levelledLength 4 = .ok (.getfield 146, 3) := by decide +kernel
theorem dX7_levelledLength_7 : decode cX7_levelledLength 7 = .ok (.ireturn, 1) := by decide +kernel
theorem dX7_usage_0 : decode cX7_usage 0 = .ok (.iload_n 1, 1) := by decide +kernel
theorem dX7_usage_1 : decode cX7_usage 1 = .ok (.invokestatic 158, 3) := by decide +kernel
theorem dX7_usage_4 : decode cX7_usage 4 = .ok (.iload_n 2, 1) := by decide +kernel
theorem dX7_usage_5 : decode cX7_usage 5 = .ok (.invokestatic 210, 3) := by decide +kernel
theorem dX7_usage_8 : decode cX7_usage 8 = .ok (.aload_n 0, 1) := by decide +kernel
theorem dX7_usage_9 : decode cX7_usage 9 = .ok (.invokevirtual 135, 3) := by decide +kernel
theorem dX7_usage_12 : decode cX7_usage 12 = .ok (.iload_n 1, 1) := by decide +kernel
theorem dX7_usage_13 : decode cX7_usage 13 = .ok (.iload_n 2, 1) := by decide +kernel
theorem dX7_usage_14 : decode cX7_usage 14 = .ok (.invokevirtual 213, 3) := by decide +kernel
theorem dX7_usage_17 : decode cX7_usage 17 = .ok (.ireturn, 1) := by decide +kernel
theorem dX7_usageByTasks_0 : decode cX7_usageByTasks 0 = .ok (.iload_n 1, 1) := by decide +kernel
theorem dX7_usageByTasks_1 : decode cX7_usageByTasks 1 = .ok (.invokestatic 158, 3) := by decide +kernel
theorem dX7_usageByTasks_4 : decode cX7_usageByTasks 4 = .ok (.iload_n 2, 1) := by decide +kernel
theorem dX7_usageByTasks_5 : decode cX7_usageByTasks 5 = .ok (.invokestatic 210, 3) := by decide +kernel
theorem dX7_usageByTasks_8 : decode cX7_usageByTasks 8 = .ok (.iconst 0, 1) := by decide +kernel
theorem dX7_usageByTasks_9 : decode cX7_usageByTasks 9 = .ok (.istore_n 3, 1) := by decide +kernel
theorem dX7_usageByTasks_10 : decode cX7_usageByTasks 10 = .ok (.iconst 0, 1) := by decide +kernel
theorem dX7_usageByTasks_11 : decode cX7_usageByTasks 11 = .ok (.istore 4, 2) := by decide +kernel
theorem dX7_usageByTasks_13 : decode cX7_usageByTasks 13 = .ok (.iload 4, 2) := by decide +kernel
theorem dX7_usageByTasks_15 : decode cX7_usageByTasks 15 = .ok (.aload_n 0, 1) := by decide +kernel
theorem dX7_usageByTasks_16 : decode cX7_usageByTasks 16 = .ok (.getfield 12, 3) := by decide +kernel
theorem dX7_usageByTasks_19 : decode cX7_usageByTasks 19 = .ok (.getfield 88, 3) := by decide +kernel
theorem dX7_usageByTasks_22 : decode cX7_usageByTasks 22 = .ok (.if_icmp .ge 50, 3) := by decide +kernel
theorem dX7_usageByTasks_25 : decode cX7_usageByTasks 25 = .ok (.aload_n 0, 1) := by decide +kernel
theorem dX7_usageByTasks_26 : decode cX7_usageByTasks 26 = .ok (.getfield 12, 3) := by decide +kernel
theorem dX7_usageByTasks_29 : decode cX7_usageByTasks 29 = .ok (.getfield 152, 3) := by decide +kernel
theorem dX7_usageByTasks_32 : decode cX7_usageByTasks 32 = .ok (.iload 4, 2) := by decide +kernel
theorem dX7_usageByTasks_34 : decode cX7_usageByTasks 34 = .ok (.invokestatic 115, 3) := by decide +kernel
theorem dX7_usageByTasks_37 : decode cX7_usageByTasks 37 = .ok (.iload_n 1, 1) := by decide +kernel
theorem dX7_usageByTasks_38 : decode cX7_usageByTasks 38 = .ok (.if_icmp .ne 28, 3) := by decide +kernel
theorem dX7_usageByTasks_41 : decode cX7_usageByTasks 41 = .ok (.aload_n 0, 1) := by decide +kernel
theorem dX7_usageByTasks_42 : decode cX7_usageByTasks 42 = .ok (.iload 4, 2) := by decide +kernel
theorem dX7_usageByTasks_44 : decode cX7_usageByTasks 44 = .ok (.iload_n 2, 1) := by decide +kernel
theorem dX7_usageByTasks_45 : decode cX7_usageByTasks 45 = .ok (.invokevirtual 217, 3) := by decide +kernel
theorem dX7_usageByTasks_48 : decode cX7_usageByTasks 48 = .ok (.ifCond .eq 18, 3) := by decide +kernel
theorem dX7_usageByTasks_51 : decode cX7_usageByTasks 51 = .ok (.iload_n 3, 1) := by decide +kernel
theorem dX7_usageByTasks_52 : decode cX7_usageByTasks 52 = .ok (.aload_n 0, 1) := by decide +kernel
theorem dX7_usageByTasks_53 : decode cX7_usageByTasks 53 = .ok (.getfield 12, 3) := by decide +kernel
theorem dX7_usageByTasks_56 : decode cX7_usageByTasks 56 = .ok (.getfield 155, 3) := by decide +kernel
theorem dX7_usageByTasks_59 : decode cX7_usageByTasks 59 = .ok (.iload 4, 2) := by decide +kernel
theorem dX7_usageByTasks_61 : decode cX7_usageByTasks 61 = .ok (.invokestatic 115, 3) := by decide +kernel
theorem dX7_usageByTasks_64 : decode cX7_usageByTasks 64 = .ok (.iadd, 1) := by decide +kernel
theorem dX7_usageByTasks_65 : decode cX7_usageByTasks 65 = .ok (.istore_n 3, 1) := by decide +kernel
theorem dX7_usageByTasks_66 : decode cX7_usageByTasks 66 = .ok (.iinc 4 1, 3) := by decide +kernel
theorem dX7_usageByTasks_69 : decode cX7_usageByTasks 69 = .ok (.goto (-56), 3) := by decide +kernel
theorem dX7_usageByTasks_72 : decode cX7_usageByTasks 72 = .ok (.iload_n 3, 1) := by decide +kernel
theorem dX7_usageByTasks_73 : decode cX7_usageByTasks 73 = .ok (.ireturn, 1) := by decide +kernel
theorem dX7_peakUsage_0 : decode cX7_peakUsage 0 = .ok (.iload_n 1, 1) := by decide +kernel
theorem dX7_peakUsage_1 : decode cX7_peakUsage 1 = .ok (.invokestatic 158, 3) := by decide +kernel
theorem dX7_peakUsage_4 : decode cX7_peakUsage 4 = .ok (.aload_n 0, 1) := by decide +kernel
theorem dX7_peakUsage_5 : decode cX7_peakUsage 5 = .ok (.invokevirtual 135, 3) := by decide +kernel
theorem dX7_peakUsage_8 : decode cX7_peakUsage 8 = .ok (.astore_n 2, 1) := by decide +kernel
theorem dX7_peakUsage_9 : decode cX7_peakUsage 9 = .ok (.iconst 0, 1) := by decide +kernel
theorem dX7_peakUsage_10 : decode cX7_peakUsage 10 = .ok (.istore_n 3, 1) := by decide +kernel
theorem dX7_peakUsage_11 : decode cX7_peakUsage 11 = .ok (.iconst 0, 1) := by decide +kernel
theorem dX7_peakUsage_12 : decode cX7_peakUsage 12 = .ok (.istore 4, 2) := by decide +kernel
theorem dX7_peakUsage_14 : decode cX7_peakUsage 14 = .ok (.iload 4, 2) := by decide +kernel
theorem dX7_peakUsage_16 : decode cX7_peakUsage 16 = .ok (.sipush 138, 3) := by decide +kernel
theorem dX7_peakUsage_19 : decode cX7_peakUsage 19 = .ok (.if_icmp .ge 21, 3) := by decide +kernel
theorem dX7_peakUsage_22 : decode cX7_peakUsage 22 = .ok (.iload_n 3, 1) := by decide +kernel
theorem dX7_peakUsage_23 : decode cX7_peakUsage 23 = .ok (.aload_n 2, 1) := by decide +kernel
theorem dX7_peakUsage_24 : decode cX7_peakUsage 24 = .ok (.iload_n 1, 1) := by decide +kernel
theorem dX7_peakUsage_25 : decode cX7_peakUsage 25 = .ok (.iload 4, 2) := by decide +kernel
theorem dX7_peakUsage_27 : decode cX7_peakUsage 27 = .ok (.invokevirtual 213, 3) := by decide +kernel
theorem dX7_peakUsage_30 : decode cX7_peakUsage 30 = .ok (.invokestatic 220, 3) := by decide +kernel
theorem dX7_peakUsage_33 : decode cX7_peakUsage 33 = .ok (.istore_n 3, 1) := by decide +kernel
theorem dX7_peakUsage_34 : decode cX7_peakUsage 34 = .ok (.iinc 4 1, 3) := by decide +kernel
theorem dX7_peakUsage_37 : decode cX7_peakUsage 37 = .ok (.goto (-23), 3) := by decide +kernel
theorem dX7_peakUsage_40 : decode cX7_peakUsage 40 = .ok (.iload_n 3, 1) := by decide +kernel
theorem dX7_peakUsage_41 : decode cX7_peakUsage 41 = .ok (.ireturn, 1) := by decide +kernel
theorem dX7_tasksOn_0 : decode cX7_tasksOn 0 = .ok (.iload_n 1, 1) := by decide +kernel
theorem dX7_tasksOn_1 : decode cX7_tasksOn 1 = .ok (.invokestatic 210, 3) := by decide +kernel
theorem dX7_tasksOn_4 : decode cX7_tasksOn 4 = .ok (.iconst 0, 1) := by decide +kernel
theorem dX7_tasksOn_5 : decode cX7_tasksOn 5 = .ok (.istore_n 2, 1) := by decide +kernel
theorem dX7_tasksOn_6 : decode cX7_tasksOn 6 = .ok (.iconst 0, 1) := by decide +kernel
theorem dX7_tasksOn_7 : decode cX7_tasksOn 7 = .ok (.istore_n 3, 1) := by decide +kernel
theorem dX7_tasksOn_8 : decode cX7_tasksOn 8 = .ok (.iload_n 3, 1) := by decide +kernel
theorem dX7_tasksOn_9 : decode cX7_tasksOn 9 = .ok (.aload_n 0, 1) := by decide +kernel
theorem dX7_tasksOn_10 : decode cX7_tasksOn 10 = .ok (.getfield 12, 3) := by decide +kernel
theorem dX7_tasksOn_13 : decode cX7_tasksOn 13 = .ok (.getfield 88, 3) := by decide +kernel
theorem dX7_tasksOn_16 : decode cX7_tasksOn 16 = .ok (.if_icmp .ge 21, 3) := by decide +kernel
theorem dX7_tasksOn_19 : decode cX7_tasksOn 19 = .ok (.aload_n 0, 1) := by decide +kernel
theorem dX7_tasksOn_20 : decode cX7_tasksOn 20 = .ok (.iload_n 3, 1) := by decide +kernel
theorem dX7_tasksOn_21 : decode cX7_tasksOn 21 = .ok (.iload_n 1, 1) := by decide +kernel
theorem dX7_tasksOn_22 : decode cX7_tasksOn 22 = .ok (.invokevirtual 217, 3) := by decide +kernel
theorem dX7_tasksOn_25 : decode cX7_tasksOn 25 = .ok (.ifCond .eq 6, 3) := by decide +kernel
theorem dX7_tasksOn_28 : decode cX7_tasksOn 28 = .ok (.iinc 2 1, 3) := by decide +kernel
theorem dX7_tasksOn_31 : decode cX7_tasksOn 31 = .ok (.iinc 3 1, 3) := by decide +kernel
theorem dX7_tasksOn_34 : decode cX7_tasksOn 34 = .ok (.goto (-26), 3) := by decide +kernel
theorem dX7_tasksOn_37 : decode cX7_tasksOn 37 = .ok (.iload_n 2, 1) := by decide +kernel
theorem dX7_tasksOn_38 : decode cX7_tasksOn 38 = .ok (.ireturn, 1) := by decide +kernel
theorem dX7_workload_0 : decode cX7_workload 0 = .ok (.iload_n 1, 1) := by decide +kernel
theorem dX7_workload_1 : decode cX7_workload 1 = .ok (.invokestatic 158, 3) := by decide +kernel
theorem dX7_workload_4 : decode cX7_workload 4 = .ok (.aload_n 0, 1) := by decide +kernel
theorem dX7_workload_5 : decode cX7_workload 5 = .ok (.getfield 12, 3) := by decide +kernel
theorem dX7_workload_8 : decode cX7_workload 8 = .ok (.iload_n 1, 1) := by decide +kernel
theorem dX7_workload_9 : decode cX7_workload 9 = .ok (.invokevirtual 225, 3) := by decide +kernel
theorem dX7_workload_12 : decode cX7_workload 12 = .ok (.ireturn, 1) := by decide +kernel
theorem dX7_workloadByDays_0 : decode cX7_workloadByDays 0 = .ok (.iload_n 1, 1) := by decide +kernel
theorem dX7_workloadByDays_1 : decode cX7_workloadByDays 1 = .ok (.invokestatic 158, 3) := by decide +kernel
theorem dX7_workloadByDays_4 : decode cX7_workloadByDays 4 = .ok (.aload_n 0, 1) := by decide +kernel
theorem dX7_workloadByDays_5 : decode cX7_workloadByDays 5 = .ok (.invokevirtual 135, 3) := by decide +kernel
theorem dX7_workloadByDays_8 : decode cX7_workloadByDays 8 = .ok (.iload_n 1, 1) := by decide +kernel
theorem dX7_workloadByDays_9 : decode cX7_workloadByDays 9 = .ok (.invokevirtual 228, 3) := by decide +kernel
theorem dX7_workloadByDays_12 : decode cX7_workloadByDays 12 = .ok (.ireturn, 1) := by decide +kernel
theorem dX7_hasBaseline_0 : decode cX7_hasBaseline 0 = .ok (.aload_n 0, 1) := by decide +kernel
theorem dX7_hasBaseline_1 : decode cX7_hasBaseline 1 = .ok (.getfield 12, 3) := by decide +kernel
theorem dX7_hasBaseline_4 : decode cX7_hasBaseline 4 = .ok (.getfield 231, 3) := by decide +kernel
theorem dX7_hasBaseline_7 : decode cX7_hasBaseline 7 = .ok (.ireturn, 1) := by decide +kernel
theorem dX7_baselineStart_0 : decode cX7_baselineStart 0 = .ok (.aload_n 0, 1) := by decide +kernel
theorem dX7_baselineStart_1 : decode cX7_baselineStart 1 = .ok (.iload_n 1, 1) := by decide +kernel
theorem dX7_baselineStart_2 : decode cX7_baselineStart 2 = .ok (.invokevirtual 149, 3) := by decide +kernel
theorem dX7_baselineStart_5 : decode cX7_baselineStart 5 = .ok (.aload_n 0, 1) := by decide +kernel
theorem dX7_baselineStart_6 : decode cX7_baselineStart 6 = .ok (.iload_n 1, 1) := by decide +kernel
theorem dX7_baselineStart_7 : decode cX7_baselineStart 7 = .ok (.invokevirtual 235, 3) := by decide +kernel
theorem dX7_baselineStart_10 : decode cX7_baselineStart 10 = .ok (.aload_n 0, 1) := by decide +kernel
theorem dX7_baselineStart_11 : decode cX7_baselineStart 11 = .ok (.getfield 12, 3) := by decide +kernel
theorem dX7_baselineStart_14 : decode cX7_baselineStart 14 = .ok (.getfield 238, 3) := by decide +kernel
theorem dX7_baselineStart_17 : decode cX7_baselineStart 17 = .ok (.iload_n 1, 1) := by decide +kernel
theorem dX7_baselineStart_18 : decode cX7_baselineStart 18 = .ok (.invokestatic 115, 3) := by decide +kernel
theorem dX7_baselineStart_21 : decode cX7_baselineStart 21 = .ok (.ireturn, 1) := by decide +kernel
theorem dX7_drift_0 : decode cX7_drift 0 = .ok (.aload_n 0, 1) := by decide +kernel
theorem dX7_drift_1 : decode cX7_drift 1 = .ok (.iload_n 1, 1) := by decide +kernel
theorem dX7_drift_2 : decode cX7_drift 2 = .ok (.invokevirtual 149, 3) := by decide +kernel
theorem dX7_drift_5 : decode cX7_drift 5 = .ok (.aload_n 0, 1) := by decide +kernel
theorem dX7_drift_6 : decode cX7_drift 6 = .ok (.iload_n 1, 1) := by decide +kernel
theorem dX7_drift_7 : decode cX7_drift 7 = .ok (.invokevirtual 235, 3) := by decide +kernel
theorem dX7_drift_10 : decode cX7_drift 10 = .ok (.aload_n 0, 1) := by decide +kernel
theorem dX7_drift_11 : decode cX7_drift 11 = .ok (.iload_n 1, 1) := by decide +kernel
theorem dX7_drift_12 : decode cX7_drift 12 = .ok (.invokevirtual 241, 3) := by decide +kernel
theorem dX7_drift_15 : decode cX7_drift 15 = .ok (.ireturn, 1) := by decide +kernel
theorem dX7_totalDrift_0 : decode cX7_totalDrift 0 = .ok (.aload_n 0, 1) := by decide +kernel
theorem dX7_totalDrift_1 : decode cX7_totalDrift 1 = .ok (.getfield 12, 3) := by decide +kernel
theorem dX7_totalDrift_4 : decode cX7_totalDrift 4 = .ok (.getfield 231, 3) := by decide +kernel
theorem dX7_totalDrift_7 : decode cX7_totalDrift 7 = .ok (.ifCond .ne 13, 3) := by decide +kernel
theorem dX7_totalDrift_10 : decode cX7_totalDrift 10 = .ok (.new 183, 3) := by decide +kernel
theorem dX7_totalDrift_13 : decode cX7_totalDrift 13 = .ok (.dup, 1) := by decide +kernel
theorem dX7_totalDrift_14 : decode cX7_totalDrift 14 = .ok (.ldc 244, 2) := by decide +kernel
theorem dX7_totalDrift_16 : decode cX7_totalDrift 16 = .ok (.invokespecial 187, 3) := by decide +kernel
theorem dX7_totalDrift_19 : decode cX7_totalDrift 19 = .ok (.athrow, 1) := by decide +kernel
theorem dX7_totalDrift_20 : decode cX7_totalDrift 20 = .ok (.iconst 0, 1) := by decide +kernel
theorem dX7_totalDrift_21 : decode cX7_totalDrift 21 = .ok (.istore_n 1, 1) := by decide +kernel
theorem dX7_totalDrift_22 : decode cX7_totalDrift 22 = .ok (.iconst 0, 1) := by decide +kernel
theorem dX7_totalDrift_23 : decode cX7_totalDrift 23 = .ok (.istore_n 2, 1) := by decide +kernel
theorem dX7_totalDrift_24 : decode cX7_totalDrift 24 = .ok (.iload_n 2, 1) := by decide +kernel
theorem dX7_totalDrift_25 : decode cX7_totalDrift 25 = .ok (.aload_n 0, 1) := by decide +kernel
theorem dX7_totalDrift_26 : decode cX7_totalDrift 26 = .ok (.getfield 12, 3) := by decide +kernel
theorem dX7_totalDrift_29 : decode cX7_totalDrift 29 = .ok (.getfield 88, 3) := by decide +kernel
theorem dX7_totalDrift_32 : decode cX7_totalDrift 32 = .ok (.if_icmp .ge 31, 3) := by decide +kernel
theorem dX7_totalDrift_35 : decode cX7_totalDrift 35 = .ok (.aload_n 0, 1) := by decide +kernel
theorem dX7_totalDrift_36 : decode cX7_totalDrift 36 = .ok (.getfield 12, 3) := by decide +kernel
theorem dX7_totalDrift_39 : decode cX7_totalDrift 39 = .ok (.iload_n 2, 1) := by decide +kernel
theorem dX7_totalDrift_40 : decode cX7_totalDrift 40 = .ok (.invokevirtual 246, 3) := by decide +kernel
theorem dX7_totalDrift_43 : decode cX7_totalDrift 43 = .ok (.ifCond .eq 14, 3) := by decide +kernel
theorem dX7_totalDrift_46 : decode cX7_totalDrift 46 = .ok (.iload_n 1, 1) := by decide +kernel
theorem dX7_totalDrift_47 : decode cX7_totalDrift 47 = .ok (.aload_n 0, 1) := by decide +kernel
theorem dX7_totalDrift_48 : decode cX7_totalDrift 48 = .ok (.iload_n 2, 1) := by decide +kernel
theorem dX7_totalDrift_49 : decode cX7_totalDrift 49 = .ok (.invokevirtual 241, 3) := by decide +kernel
theorem dX7_totalDrift_52 : decode cX7_totalDrift 52 = .ok (.invokestatic 250, 3) := by decide +kernel
theorem dX7_totalDrift_55 : decode cX7_totalDrift 55 = .ok (.iadd, 1) := by decide +kernel
theorem dX7_totalDrift_56 : decode cX7_totalDrift 56 = .ok (.istore_n 1, 1) := by decide +kernel
theorem dX7_totalDrift_57 : decode cX7_totalDrift 57 = .ok (.iinc 2 1, 3) := by decide +kernel
theorem dX7_totalDrift_60 : decode cX7_totalDrift 60 = .ok (.goto (-36), 3) := by decide +kernel
theorem dX7_totalDrift_63 : decode cX7_totalDrift 63 = .ok (.iload_n 1, 1) := by decide +kernel
theorem dX7_totalDrift_64 : decode cX7_totalDrift 64 = .ok (.ireturn, 1) := by decide +kernel
theorem dX7_taskBySlack_0 : decode cX7_taskBySlack 0 = .ok (.aload_n 0, 1) := by decide +kernel
theorem dX7_taskBySlack_1 : decode cX7_taskBySlack 1 = .ok (.invokevirtual 135, 3) := by decide +kernel
theorem dX7_taskBySlack_4 : decode cX7_taskBySlack 4 = .ok (.astore_n 2, 1) := by decide +kernel
theorem dX7_taskBySlack_5 : decode cX7_taskBySlack 5 = .ok (.iconst 0, 1) := by decide +kernel
theorem dX7_taskBySlack_6 : decode cX7_taskBySlack 6 = .ok (.istore_n 3, 1) := by decide +kernel
theorem dX7_taskBySlack_7 : decode cX7_taskBySlack 7 = .ok (.iload_n 3, 1) := by decide +kernel
theorem dX7_taskBySlack_8 : decode cX7_taskBySlack 8 = .ok (.aload_n 0, 1) := by decide +kernel
theorem dX7_taskBySlack_9 : decode cX7_taskBySlack 9 = .ok (.getfield 12, 3) := by decide +kernel
theorem dX7_taskBySlack_12 : decode cX7_taskBySlack 12 = .ok (.getfield 88, 3) := by decide +kernel
theorem dX7_taskBySlack_15 : decode cX7_taskBySlack 15 = .ok (.if_icmp .ge 36, 3) := by decide +kernel
theorem dX7_taskBySlack_18 : decode cX7_taskBySlack 18 = .ok (.aload_n 0, 1) := by decide +kernel
theorem dX7_taskBySlack_19 : decode cX7_taskBySlack 19 = .ok (.getfield 50, 3) := by decide +kernel
theorem dX7_taskBySlack_22 : decode cX7_taskBySlack 22 = .ok (.iload_n 3, 1) := by decide +kernel
theorem dX7_taskBySlack_23 : decode cX7_taskBySlack 23 = .ok (.aload_n 2, 1) := by decide +kernel
theorem dX7_taskBySlack_24 : decode cX7_taskBySlack 24 = .ok (.iload_n 3, 1) := by decide +kernel
theorem dX7_taskBySlack_25 : decode cX7_taskBySlack 25 = .ok (.invokevirtual 202, 3) := by decide +kernel
theorem dX7_taskBySlack_28 : decode cX7_taskBySlack 28 = .ok (.aload_n 0, 1) := by decide +kernel
theorem dX7_taskBySlack_29 : decode cX7_taskBySlack 29 = .ok (.getfield 12, 3) := by decide +kernel
theorem dX7_taskBySlack_32 : decode cX7_taskBySlack 32 = .ok (.getfield 112, 3) := by decide +kernel
theorem dX7_taskBySlack_35 : decode cX7_taskBySlack 35 = .ok (.iload_n 3, 1) := by decide +kernel
theorem dX7_taskBySlack_36 : decode cX7_taskBySlack 36 = .ok (.invokestatic 115, 3) := by decide +kernel
theorem dX7_taskBySlack_39 : decode cX7_taskBySlack 39 = .ok (.invokestatic 253, 3) := by decide +kernel
theorem dX7_taskBySlack_42 : decode cX7_taskBySlack 42 = .ok (.invokestatic 119, 3) := by decide +kernel
theorem dX7_taskBySlack_45 : decode cX7_taskBySlack 45 = .ok (.iinc 3 1, 3) := by decide +kernel
theorem dX7_taskBySlack_48 : decode cX7_taskBySlack 48 = .ok (.goto (-41), 3) := by decide +kernel
theorem dX7_taskBySlack_51 : decode cX7_taskBySlack 51 = .ok (.aload_n 0, 1) := by decide +kernel
theorem dX7_taskBySlack_52 : decode cX7_taskBySlack 52 = .ok (.iload_n 1, 1) := by decide +kernel
theorem dX7_taskBySlack_53 : decode cX7_taskBySlack 53 = .ok (.invokevirtual 256, 3) := by decide +kernel
theorem dX7_taskBySlack_56 : decode cX7_taskBySlack 56 = .ok (.ireturn, 1) := by decide +kernel
theorem dX7_taskByStart_0 : decode cX7_taskByStart 0 = .ok (.aload_n 0, 1) := by decide +kernel
theorem dX7_taskByStart_1 : decode cX7_taskByStart 1 = .ok (.invokevirtual 135, 3) := by decide +kernel
theorem dX7_taskByStart_4 : decode cX7_taskByStart 4 = .ok (.astore_n 2, 1) := by decide +kernel
theorem dX7_taskByStart_5 : decode cX7_taskByStart 5 = .ok (.iconst 0, 1) := by decide +kernel
theorem dX7_taskByStart_6 : decode cX7_taskByStart 6 = .ok (.istore_n 3, 1) := by decide +kernel
theorem dX7_taskByStart_7 : decode cX7_taskByStart 7 = .ok (.iload_n 3, 1) := by decide +kernel
theorem dX7_taskByStart_8 : decode cX7_taskByStart 8 = .ok (.aload_n 0, 1) := by decide +kernel
theorem dX7_taskByStart_9 : decode cX7_taskByStart 9 = .ok (.getfield 12, 3) := by decide +kernel
theorem dX7_taskByStart_12 : decode cX7_taskByStart 12 = .ok (.getfield 88, 3) := by decide +kernel
theorem dX7_taskByStart_15 : decode cX7_taskByStart 15 = .ok (.if_icmp .ge 39, 3) := by decide +kernel
theorem dX7_taskByStart_18 : decode cX7_taskByStart 18 = .ok (.aload_n 0, 1) := by decide +kernel
theorem dX7_taskByStart_19 : decode cX7_taskByStart 19 = .ok (.getfield 50, 3) := by decide +kernel
theorem dX7_taskByStart_22 : decode cX7_taskByStart 22 = .ok (.iload_n 3, 1) := by decide +kernel
theorem dX7_taskByStart_23 : decode cX7_taskByStart 23 = .ok (.aload_n 2, 1) := by decide +kernel
theorem dX7_taskByStart_24 : decode cX7_taskByStart 24 = .ok (.getfield 139, 3) := by decide +kernel
theorem dX7_taskByStart_27 : decode cX7_taskByStart 27 = .ok (.iload_n 3, 1) := by decide +kernel
theorem dX7_taskByStart_28 : decode cX7_taskByStart 28 = .ok (.invokestatic 115, 3) := by decide +kernel
theorem dX7_taskByStart_31 : decode cX7_taskByStart 31 = .ok (.aload_n 0, 1) := by decide +kernel
theorem dX7_taskByStart_32 : decode cX7_taskByStart 32 = .ok (.getfield 12, 3) := by decide +kernel
theorem dX7_taskByStart_35 : decode cX7_taskByStart 35 = .ok (.getfield 155, 3) := by decide +kernel
theorem dX7_taskByStart_38 : decode cX7_taskByStart 38 = .ok (.iload_n 3, 1) := by decide +kernel
theorem dX7_taskByStart_39 : decode cX7_taskByStart 39 = .ok (.invokestatic 115, 3) := by decide +kernel
theorem dX7_taskByStart_42 : decode cX7_taskByStart 42 = .ok (.invokestatic 253, 3) := by decide +kernel
theorem dX7_taskByStart_45 : decode cX7_taskByStart 45 = .ok (.invokestatic 119, 3) := by decide +kernel
theorem dX7_taskByStart_48 : decode cX7_taskByStart 48 = .ok (.iinc 3 1, 3) := by decide +kernel
theorem dX7_taskByStart_51 : decode cX7_taskByStart 51 = .ok (.goto (-44), 3) := by decide +kernel
theorem dX7_taskByStart_54 : decode cX7_taskByStart 54 = .ok (.aload_n 0, 1) := by decide +kernel
theorem dX7_taskByStart_55 : decode cX7_taskByStart 55 = .ok (.iload_n 1, 1) := by decide +kernel
theorem dX7_taskByStart_56 : decode cX7_taskByStart 56 = .ok (.invokevirtual 256, 3) := by decide +kernel
theorem dX7_taskByStart_59 : decode cX7_taskByStart 59 = .ok (.ireturn, 1) := by decide +kernel
theorem dX7_meanSlack_0 : decode cX7_meanSlack 0 = .ok (.aload_n 0, 1) := by decide +kernel
theorem dX7_meanSlack_1 : decode cX7_meanSlack 1 = .ok (.getfield 12, 3) := by decide +kernel
theorem dX7_meanSlack_4 : decode cX7_meanSlack 4 = .ok (.getfield 88, 3) := by decide +kernel
theorem dX7_meanSlack_7 : decode cX7_meanSlack 7 = .ok (.istore_n 1, 1) := by decide +kernel
theorem dX7_meanSlack_8 : decode cX7_meanSlack 8 = .ok (.iload_n 1, 1) := by decide +kernel
theorem dX7_meanSlack_9 : decode cX7_meanSlack 9 = .ok (.ifCond .ne 13, 3) := by decide +kernel
theorem dX7_meanSlack_12 : decode cX7_meanSlack 12 = .ok (.new 259, 3) := by decide +kernel
theorem dX7_meanSlack_15 : decode cX7_meanSlack 15 = .ok (.dup, 1) := by decide +kernel
theorem dX7_meanSlack_16 : decode cX7_meanSlack 16 = .ok (.ldc 208, 2) := by decide +kernel
theorem dX7_meanSlack_18 : decode cX7_meanSlack 18 = .ok (.invokespecial 261, 3) := by decide +kernel
theorem dX7_meanSlack_21 : decode cX7_meanSlack 21 = .ok (.athrow, 1) := by decide +kernel
theorem dX7_meanSlack_22 : decode cX7_meanSlack 22 = .ok (.aload_n 0, 1) := by decide +kernel
theorem dX7_meanSlack_23 : decode cX7_meanSlack 23 = .ok (.invokevirtual 135, 3) := by decide +kernel
theorem dX7_meanSlack_26 : decode cX7_meanSlack 26 = .ok (.astore_n 2, 1) := by decide +kernel
theorem dX7_meanSlack_27 : decode cX7_meanSlack 27 = .ok (.iconst 0, 1) := by decide +kernel
theorem dX7_meanSlack_28 : decode cX7_meanSlack 28 = .ok (.istore_n 3, 1) := by decide +kernel
theorem dX7_meanSlack_29 : decode cX7_meanSlack 29 = .ok (.iconst 0, 1) := by decide +kernel
theorem dX7_meanSlack_30 : decode cX7_meanSlack 30 = .ok (.istore 4, 2) := by decide +kernel
theorem dX7_meanSlack_32 : decode cX7_meanSlack 32 = .ok (.iload 4, 2) := by decide +kernel
theorem dX7_meanSlack_34 : decode cX7_meanSlack 34 = .ok (.iload_n 1, 1) := by decide +kernel
theorem dX7_meanSlack_35 : decode cX7_meanSlack 35 = .ok (.if_icmp .ge 18, 3) := by decide +kernel
theorem dX7_meanSlack_38 : decode cX7_meanSlack 38 = .ok (.iload_n 3, 1) := by decide +kernel
theorem dX7_meanSlack_39 : decode cX7_meanSlack 39 = .ok (.aload_n 2, 1) := by decide +kernel
theorem dX7_meanSlack_40 : decode cX7_meanSlack 40 = .ok (.iload 4, 2) := by decide +kernel
theorem dX7_meanSlack_42 : decode cX7_meanSlack 42 = .ok (.invokevirtual 202, 3) := by decide +kernel
theorem dX7_meanSlack_45 : decode cX7_meanSlack 45 = .ok (.iadd, 1) := by decide +kernel
theorem dX7_meanSlack_46 : decode cX7_meanSlack 46 = .ok (.istore_n 3, 1) := by decide +kernel
theorem dX7_meanSlack_47 : decode cX7_meanSlack 47 = .ok (.iinc 4 1, 3) := by decide +kernel
theorem dX7_meanSlack_50 : decode cX7_meanSlack 50 = .ok (.goto (-18), 3) := by decide +kernel
theorem dX7_meanSlack_53 : decode cX7_meanSlack 53 = .ok (.iload_n 3, 1) := by decide +kernel
theorem dX7_meanSlack_54 : decode cX7_meanSlack 54 = .ok (.i2d, 1) := by decide +kernel
theorem dX7_meanSlack_55 : decode cX7_meanSlack 55 = .ok (.iload_n 1, 1) := by decide +kernel
theorem dX7_meanSlack_56 : decode cX7_meanSlack 56 = .ok (.i2d, 1) := by decide +kernel
theorem dX7_meanSlack_57 : decode cX7_meanSlack 57 = .ok (.ddiv, 1) := by decide +kernel
theorem dX7_meanSlack_58 : decode cX7_meanSlack 58 = .ok (.dreturn, 1) := by decide +kernel
theorem dX7_utilization_0 : decode cX7_utilization 0 = .ok (.iload_n 1, 1) := by decide +kernel
theorem dX7_utilization_1 : decode cX7_utilization 1 = .ok (.invokestatic 158, 3) := by decide +kernel
theorem dX7_utilization_4 : decode cX7_utilization 4 = .ok (.aload_n 0, 1) := by decide +kernel
theorem dX7_utilization_5 : decode cX7_utilization 5 = .ok (.getfield 12, 3) := by decide +kernel
theorem dX7_utilization_8 : decode cX7_utilization 8 = .ok (.getfield 132, 3) := by decide +kernel
theorem dX7_utilization_11 : decode cX7_utilization 11 = .ok (.iload_n 1, 1) := by decide +kernel
theorem dX7_utilization_12 : decode cX7_utilization 12 = .ok (.invokestatic 115, 3) := by decide +kernel
theorem dX7_utilization_15 : decode cX7_utilization 15 = .ok (.aload_n 0, 1) := by decide +kernel
theorem dX7_utilization_16 : decode cX7_utilization 16 = .ok (.invokevirtual 135, 3) := by decide +kernel
theorem dX7_utilization_19 : decode cX7_utilization 19 = .ok (.getfield 146, 3) := by decide +kernel
theorem dX7_utilization_22 : decode cX7_utilization 22 = .ok (.imul, 1) := by decide +kernel
theorem dX7_utilization_23 : decode cX7_utilization 23 = .ok (.istore_n 2, 1) := by decide +kernel
theorem dX7_utilization_24 : decode cX7_utilization 24 = .ok (.iload_n 2, 1) := by decide +kernel
theorem dX7_utilization_25 : decode cX7_utilization 25 = .ok (.ifCond .ne 13, 3) := by decide +kernel
theorem dX7_utilization_28 : decode cX7_utilization 28 = .ok (.new 259, 3) := by decide +kernel
theorem dX7_utilization_31 : decode cX7_utilization 31 = .ok (.dup, 1) := by decide +kernel
theorem dX7_utilization_32 : decode cX7_utilization 32 = .ok (.ldc 208, 2) := by decide +kernel
theorem dX7_utilization_34 : decode cX7_utilization 34 = .ok (.invokespecial 261, 3) := by decide +kernel
theorem dX7_utilization_37 : decode cX7_utilization 37 = .ok (.athrow, 1) := by decide +kernel
theorem dX7_utilization_38 : decode cX7_utilization 38 = .ok (.aload_n 0, 1) := by decide +kernel
theorem dX7_utilization_39 : decode cX7_utilization 39 = .ok (.getfield 12, 3) := by decide +kernel
theorem dX7_utilization_42 : decode cX7_utilization 42 = .ok (.iload_n 1, 1) := by decide +kernel
theorem dX7_utilization_43 : decode cX7_utilization 43 = .ok (.invokevirtual 225, 3) := by decide +kernel
theorem dX7_utilization_46 : decode cX7_utilization 46 = .ok (.i2f, 1) := by decide +kernel
theorem dX7_utilization_47 : decode cX7_utilization 47 = .ok (.iload_n 2, 1) := by decide +kernel
theorem dX7_utilization_48 : decode cX7_utilization 48 = .ok (.i2f, 1) := by decide +kernel
theorem dX7_utilization_49 : decode cX7_utilization 49 = .ok (.fdiv, 1) := by decide +kernel
theorem dX7_utilization_50 : decode cX7_utilization 50 = .ok (.freturn, 1) := by decide +kernel
theorem dX7_isConsistent_0 : decode cX7_isConsistent 0 = .ok (.aload_n 0, 1) := by decide +kernel
theorem dX7_isConsistent_1 : decode cX7_isConsistent 1 = .ok (.invokevirtual 262, 3) := by decide +kernel
theorem dX7_isConsistent_4 : decode cX7_isConsistent 4 = .ok (.ifCond .eq 21, 3) := by decide +kernel
theorem dX7_isConsistent_7 : decode cX7_isConsistent 7 = .ok (.aload_n 0, 1) := by decide +kernel
theorem dX7_isConsistent_8 : decode cX7_isConsistent 8 = .ok (.invokevirtual 266, 3) := by decide +kernel
theorem dX7_isConsistent_11 : decode cX7_isConsistent 11 = .ok (.ifCond .eq 14, 3) := by decide +kernel
theorem dX7_isConsistent_14 : decode cX7_isConsistent 14 = .ok (.aload_n 0, 1) := by decide +kernel
theorem dX7_isConsistent_15 : decode cX7_isConsistent 15 = .ok (.invokevirtual 269, 3) := by decide +kernel
theorem dX7_isConsistent_18 : decode cX7_isConsistent 18 = .ok (.ifCond .eq 7, 3) := by decide +kernel
theorem dX7_isConsistent_21 : decode cX7_isConsistent 21 = .ok (.iconst 1, 1) := by decide +kernel
theorem dX7_isConsistent_22 : decode cX7_isConsistent 22 = .ok (.goto 4, 3) := by decide +kernel
theorem dX7_isConsistent_25 : decode cX7_isConsistent 25 = .ok (.iconst 0, 1) := by decide +kernel
theorem dX7_isConsistent_26 : decode cX7_isConsistent 26 = .ok (.ireturn, 1) := by decide +kernel
theorem dX7_renderTask_0 : decode cX7_renderTask 0 = .ok (.aload_n 0, 1) := by decide +kernel
theorem dX7_renderTask_1 : decode cX7_renderTask 1 = .ok (.iload_n 1, 1) := by decide +kernel
theorem dX7_renderTask_2 : decode cX7_renderTask 2 = .ok (.invokevirtual 149, 3) := by decide +kernel
theorem dX7_renderTask_5 : decode cX7_renderTask 5 = .ok (.aload_n 0, 1) := by decide +kernel
theorem dX7_renderTask_6 : decode cX7_renderTask 6 = .ok (.invokevirtual 135, 3) := by decide +kernel
theorem dX7_renderTask_9 : decode cX7_renderTask 9 = .ok (.astore_n 2, 1) := by decide +kernel
theorem dX7_renderTask_10 : decode cX7_renderTask 10 = .ok (.aload_n 0, 1) := by decide +kernel
theorem dX7_renderTask_11 : decode cX7_renderTask 11 = .ok (.getfield 46, 3) := by decide +kernel
theorem dX7_renderTask_14 : decode cX7_renderTask 14 = .ok (.invokevirtual 272, 3) := by decide +kernel
theorem dX7_renderTask_17 : decode cX7_renderTask 17 = .ok (.aload_n 0, 1) := by decide +kernel
theorem dX7_renderTask_18 : decode cX7_renderTask 18 = .ok (.getfield 46, 3) := by decide +kernel
theorem dX7_renderTask_21 : decode cX7_renderTask 21 = .ok (.iload_n 1, 1) := by decide +kernel
theorem dX7_renderTask_22 : decode cX7_renderTask 22 = .ok (.invokevirtual 275, 3) := by decide +kernel
theorem dX7_renderTask_25 : decode cX7_renderTask 25 = .ok (.aload_n 0, 1) := by decide +kernel
theorem dX7_renderTask_26 : decode cX7_renderTask 26 = .ok (.getfield 46, 3) := by decide +kernel
theorem dX7_renderTask_29 : decode cX7_renderTask 29 = .ok (.bipush 58, 2) := by decide +kernel
theorem dX7_renderTask_31 : decode cX7_renderTask 31 = .ok (.invokevirtual 278, 3) := by decide +kernel
theorem dX7_renderTask_34 : decode cX7_renderTask 34 = .ok (.aload_n 0, 1) := by decide +kernel
theorem dX7_renderTask_35 : decode cX7_renderTask 35 = .ok (.getfield 46, 3) := by decide +kernel
theorem dX7_renderTask_38 : decode cX7_renderTask 38 = .ok (.aload_n 0, 1) := by decide +kernel
theorem dX7_renderTask_39 : decode cX7_renderTask 39 = .ok (.getfield 12, 3) := by decide +kernel
theorem dX7_renderTask_42 : decode cX7_renderTask 42 = .ok (.getfield 112, 3) := by decide +kernel
theorem dX7_renderTask_45 : decode cX7_renderTask 45 = .ok (.iload_n 1, 1) := by decide +kernel
theorem dX7_renderTask_46 : decode cX7_renderTask 46 = .ok (.invokestatic 115, 3) := by decide +kernel
theorem dX7_renderTask_49 : decode cX7_renderTask 49 = .ok (.invokevirtual 275, 3) := by decide +kernel
theorem dX7_renderTask_52 : decode cX7_renderTask 52 = .ok (.aload_n 0, 1) := by decide +kernel
theorem dX7_renderTask_53 : decode cX7_renderTask 53 = .ok (.getfield 46, 3) := by decide +kernel
theorem dX7_renderTask_56 : decode cX7_renderTask 56 = .ok (.bipush 120, 2) := by decide +kernel
theorem dX7_renderTask_58 : decode cX7_renderTask 58 = .ok (.invokevirtual 278, 3) := by decide +kernel
theorem dX7_renderTask_61 : decode cX7_renderTask 61 = .ok (.aload_n 0, 1) := by decide +kernel
theorem dX7_renderTask_62 : decode cX7_renderTask 62 = .ok (.getfield 46, 3) := by decide +kernel
theorem dX7_renderTask_65 : decode cX7_renderTask 65 = .ok (.aload_n 0, 1) := by decide +kernel
theorem dX7_renderTask_66 : decode cX7_renderTask 66 = .ok (.getfield 12, 3) := by decide +kernel
theorem dX7_renderTask_69 : decode cX7_renderTask 69 = .ok (.getfield 155, 3) := by decide +kernel
theorem dX7_renderTask_72 : decode cX7_renderTask 72 = .ok (.iload_n 1, 1) := by decide +kernel
theorem dX7_renderTask_73 : decode cX7_renderTask 73 = .ok (.invokestatic 115, 3) := by decide +kernel
theorem dX7_renderTask_76 : decode cX7_renderTask 76 = .ok (.invokevirtual 275, 3) := by decide +kernel
theorem dX7_renderTask_79 : decode cX7_renderTask 79 = .ok (.aload_n 0, 1) := by decide +kernel
theorem dX7_renderTask_80 : decode cX7_renderTask 80 = .ok (.getfield 46, 3) := by decide +kernel
theorem dX7_renderTask_83 : decode cX7_renderTask 83 = .ok (.bipush 114, 2) := by decide +kernel
theorem dX7_renderTask_85 : decode cX7_renderTask 85 = .ok (.invokevirtual 278, 3) := by decide +kernel
theorem dX7_renderTask_88 : decode cX7_renderTask 88 = .ok (.aload_n 0, 1) := by decide +kernel
theorem dX7_renderTask_89 : decode cX7_renderTask 89 = .ok (.getfield 46, 3) := by decide +kernel
theorem dX7_renderTask_92 : decode cX7_renderTask 92 = .ok (.aload_n 0, 1) := by decide +kernel
theorem dX7_renderTask_93 : decode cX7_renderTask 93 = .ok (.getfield 12, 3) := by decide +kernel
theorem dX7_renderTask_96 : decode cX7_renderTask 96 = .ok (.getfield 152, 3) := by decide +kernel
theorem dX7_renderTask_99 : decode cX7_renderTask 99 = .ok (.iload_n 1, 1) := by decide +kernel
theorem dX7_renderTask_100 : decode cX7_renderTask 100 = .ok (.invokestatic 115, 3) := by decide +kernel
theorem dX7_renderTask_103 : decode cX7_renderTask 103 = .ok (.invokevirtual 275, 3) := by decide +kernel
theorem dX7_renderTask_106 : decode cX7_renderTask 106 = .ok (.aload_n 0, 1) := by decide +kernel
theorem dX7_renderTask_107 : decode cX7_renderTask 107 = .ok (.getfield 46, 3) := by decide +kernel
theorem dX7_renderTask_110 : decode cX7_renderTask 110 = .ok (.bipush 64, 2) := by decide +kernel
theorem dX7_renderTask_112 : decode cX7_renderTask 112 = .ok (.invokevirtual 278, 3) := by decide +kernel
theorem dX7_renderTask_115 : decode cX7_renderTask 115 = .ok (.aload_n 0, 1) := by decide +kernel
theorem dX7_renderTask_116 : decode cX7_renderTask 116 = .ok (.getfield 46, 3) := by decide +kernel
theorem dX7_renderTask_119 : decode cX7_renderTask 119 = .ok (.aload_n 2, 1) := by decide +kernel
theorem dX7_renderTask_120 : decode cX7_renderTask 120 = .ok (.getfield 139, 3) := by decide +kernel
theorem dX7_renderTask_123 : decode cX7_renderTask 123 = .ok (.iload_n 1, 1) := by decide +kernel
theorem dX7_renderTask_124 : decode cX7_renderTask 124 = .ok (.invokestatic 115, 3) := by decide +kernel
theorem dX7_renderTask_127 : decode cX7_renderTask 127 = .ok (.invokevirtual 275, 3) := by decide +kernel
theorem dX7_renderTask_130 : decode cX7_renderTask 130 = .ok (.aload_n 2, 1) := by decide +kernel
theorem dX7_renderTask_131 : decode cX7_renderTask 131 = .ok (.iload_n 1, 1) := by decide +kernel
theorem dX7_renderTask_132 : decode cX7_renderTask 132 = .ok (.invokevirtual 202, 3) := by decide +kernel
theorem dX7_renderTask_135 : decode cX7_renderTask 135 = .ok (.ifCond .ne 12, 3) := by decide +kernel
theorem dX7_renderTask_138 : decode cX7_renderTask 138 = .ok (.aload_n 0, 1) := by decide +kernel
theorem dX7_renderTask_139 : decode cX7_renderTask 139 = .ok (.getfield 46, 3) := by decide +kernel
theorem dX7_renderTask_142 : decode cX7_renderTask 142 = .ok (.bipush 33, 2) := by decide +kernel
theorem dX7_renderTask_144 : decode cX7_renderTask 144 = .ok (.invokevirtual 278, 3) := by decide +kernel
theorem dX7_renderTask_147 : decode cX7_renderTask 147 = .ok (.iconst 0, 1) := by decide +kernel
theorem dX7_renderTask_148 : decode cX7_renderTask 148 = .ok (.istore_n 3, 1) := by decide +kernel
theorem dX7_renderTask_149 : decode cX7_renderTask 149 = .ok (.iload_n 3, 1) := by decide +kernel
theorem dX7_renderTask_150 : decode cX7_renderTask 150 = .ok (.aload_n 0, 1) := by decide +kernel
theorem dX7_renderTask_151 : decode cX7_renderTask 151 = .ok (.getfield 12, 3) := by decide +kernel
theorem dX7_renderTask_154 : decode cX7_renderTask 154 = .ok (.getfield 88, 3) := by decide +kernel
theorem dX7_renderTask_157 : decode cX7_renderTask 157 = .ok (.if_icmp .ge 38, 3) := by decide +kernel
theorem dX7_renderTask_160 : decode cX7_renderTask 160 = .ok (.aload_n 0, 1) := by decide +kernel
theorem dX7_renderTask_161 : decode cX7_renderTask 161 = .ok (.getfield 12, 3) := by decide +kernel
theorem dX7_renderTask_164 : decode cX7_renderTask 164 = .ok (.iload_n 1, 1) := by decide +kernel
theorem dX7_renderTask_165 : decode cX7_renderTask 165 = .ok (.iload_n 3, 1) := by decide +kernel
theorem dX7_renderTask_166 : decode cX7_renderTask 166 = .ok (.invokevirtual 95, 3) := by decide +kernel
theorem dX7_renderTask_169 : decode cX7_renderTask 169 = .ok (.ifCond .eq 20, 3) := by decide +kernel
theorem dX7_renderTask_172 : decode cX7_renderTask 172 = .ok (.aload_n 0, 1) := by decide +kernel
theorem dX7_renderTask_173 : decode cX7_renderTask 173 = .ok (.getfield 46, 3) := by decide +kernel
theorem dX7_renderTask_176 : decode cX7_renderTask 176 = .ok (.bipush 60, 2) := by decide +kernel
theorem dX7_renderTask_178 : decode cX7_renderTask 178 = .ok (.invokevirtual 278, 3) := by decide +kernel
theorem dX7_renderTask_181 : decode cX7_renderTask 181 = .ok (.aload_n 0, 1) := by decide +kernel
theorem dX7_renderTask_182 : decode cX7_renderTask 182 = .ok (.getfield 46, 3) := by decide +kernel
theorem dX7_renderTask_185 : decode cX7_renderTask 185 = .ok (.iload_n 3, 1) := by decide +kernel
theorem dX7_renderTask_186 : decode cX7_renderTask 186 = .ok (.invokevirtual 275, 3) := by decide +kernel
theorem dX7_renderTask_189 : decode cX7_renderTask 189 = .ok (.iinc 3 1, 3) := by decide +kernel
theorem dX7_renderTask_192 : decode cX7_renderTask 192 = .ok (.goto (-43), 3) := by decide +kernel
theorem dX7_renderTask_195 : decode cX7_renderTask 195 = .ok (.aload_n 0, 1) := by decide +kernel
theorem dX7_renderTask_196 : decode cX7_renderTask 196 = .ok (.getfield 46, 3) := by decide +kernel
theorem dX7_renderTask_199 : decode cX7_renderTask 199 = .ok (.getfield 281, 3) := by decide +kernel
theorem dX7_renderTask_202 : decode cX7_renderTask 202 = .ok (.ireturn, 1) := by decide +kernel
theorem dX7_renderUsage_0 : decode cX7_renderUsage 0 = .ok (.iload_n 1, 1) := by decide +kernel
theorem dX7_renderUsage_1 : decode cX7_renderUsage 1 = .ok (.invokestatic 158, 3) := by decide +kernel
theorem dX7_renderUsage_4 : decode cX7_renderUsage 4 = .ok (.aload_n 0, 1) := by decide +kernel
theorem dX7_renderUsage_5 : decode cX7_renderUsage 5 = .ok (.invokevirtual 135, 3) := by decide +kernel
theorem dX7_renderUsage_8 : decode cX7_renderUsage 8 = .ok (.astore_n 2, 1) := by decide +kernel
theorem dX7_renderUsage_9 : decode cX7_renderUsage 9 = .ok (.aload_n 0, 1) := by decide +kernel
theorem dX7_renderUsage_10 : decode cX7_renderUsage 10 = .ok (.getfield 46, 3) := by decide +kernel
theorem dX7_renderUsage_13 : decode cX7_renderUsage 13 = .ok (.invokevirtual 272, 3) := by decide +kernel
theorem dX7_renderUsage_16 : decode cX7_renderUsage 16 = .ok (.iconst 0, 1) := by decide +kernel
theorem dX7_renderUsage_17 : decode cX7_renderUsage 17 = .ok (.istore_n 3, 1) := by decide +kernel
theorem dX7_renderUsage_18 : decode cX7_renderUsage 18 = .ok (.iload_n 3, 1) := by decide +kernel
theorem dX7_renderUsage_19 : decode cX7_renderUsage 19 = .ok (.aload_n 2, 1) := by decide +kernel
theorem dX7_renderUsage_20 : decode cX7_renderUsage 20 = .ok (.getfield 146, 3) := by decide +kernel
theorem dX7_renderUsage_23 : decode cX7_renderUsage 23 = .ok (.if_icmp .ge 35, 3) := by decide +kernel
theorem dX7_renderUsage_26 : decode cX7_renderUsage 26 = .ok (.iload_n 3, 1) := by decide +kernel
theorem dX7_renderUsage_27 : decode cX7_renderUsage 27 = .ok (.ifCond .le 12, 3) := by decide +kernel
theorem dX7_renderUsage_30 : decode cX7_renderUsage 30 = .ok (.aload_n 0, 1) := by decide +kernel
theorem dX7_renderUsage_31 : decode cX7_renderUsage 31 = .ok (.getfield 46, 3) := by decide +kernel
theorem dX7_renderUsage_34 : decode cX7_renderUsage 34 = .ok (.bipush 44, 2) := by decide +kernel
theorem dX7_renderUsage_36 : decode cX7_renderUsage 36 = .ok (.invokevirtual 278, 3) := by decide +kernel
theorem dX7_renderUsage_39 : decode cX7_renderUsage 39 = .ok (.aload_n 0, 1) := by decide +kernel
theorem dX7_renderUsage_40 : decode cX7_renderUsage 40 = .ok (.getfield 46, 3) := by decide +kernel
theorem dX7_renderUsage_43 : decode cX7_renderUsage 43 = .ok (.aload_n 2, 1) := by decide +kernel
theorem dX7_renderUsage_44 : decode cX7_renderUsage 44 = .ok (.iload_n 1, 1) := by decide +kernel
theorem dX7_renderUsage_45 : decode cX7_renderUsage 45 = .ok (.iload_n 3, 1) := by decide +kernel
theorem dX7_renderUsage_46 : decode cX7_renderUsage 46 = .ok (.invokevirtual 213, 3) := by decide +kernel
theorem dX7_renderUsage_49 : decode cX7_renderUsage 49 = .ok (.invokevirtual 275, 3) := by decide +kernel
theorem dX7_renderUsage_52 : decode cX7_renderUsage 52 = .ok (.iinc 3 1, 3) := by decide +kernel
theorem dX7_renderUsage_55 : decode cX7_renderUsage 55 = .ok (.goto (-37), 3) := by decide +kernel
theorem dX7_renderUsage_58 : decode cX7_renderUsage 58 = .ok (.aload_n 0, 1) := by decide +kernel
theorem dX7_renderUsage_59 : decode cX7_renderUsage 59 = .ok (.getfield 46, 3) := by decide +kernel
theorem dX7_renderUsage_62 : decode cX7_renderUsage 62 = .ok (.getfield 281, 3) := by decide +kernel
theorem dX7_renderUsage_65 : decode cX7_renderUsage 65 = .ok (.ireturn, 1) := by decide +kernel
theorem dX7_outputAt_0 : decode cX7_outputAt 0 = .ok (.iload_n 1, 1) := by decide +kernel
theorem dX7_outputAt_1 : decode cX7_outputAt 1 = .ok (.iconst 0, 1) := by decide +kernel
theorem dX7_outputAt_2 : decode cX7_outputAt 2 = .ok (.aload_n 0, 1) := by decide +kernel
theorem dX7_outputAt_3 : decode cX7_outputAt 3 = .ok (.getfield 46, 3) := by decide +kernel
theorem dX7_outputAt_6 : decode cX7_outputAt 6 = .ok (.getfield 281, 3) := by decide +kernel
theorem dX7_outputAt_9 : decode cX7_outputAt 9 = .ok (.iconst 1, 1) := by decide +kernel
theorem dX7_outputAt_10 : decode cX7_outputAt 10 = .ok (.isub, 1) := by decide +kernel
theorem dX7_outputAt_11 : decode cX7_outputAt 11 = .ok (.invokestatic 179, 3) := by decide +kernel
theorem dX7_outputAt_14 : decode cX7_outputAt 14 = .ok (.ifCond .ne 14, 3) := by decide +kernel
theorem dX7_outputAt_17 : decode cX7_outputAt 17 = .ok (.new 284, 3) := by decide +kernel
theorem dX7_outputAt_20 : decode cX7_outputAt 20 = .ok (.dup, 1) := by decide +kernel
theorem dX7_outputAt_21 : decode cX7_outputAt 21 = .ok (.ldc_w 286, 3) := by decide +kernel
theorem dX7_outputAt_24 : decode cX7_outputAt 24 = .ok (.invokespecial 288, 3) := by decide +kernel
theorem dX7_outputAt_27 : decode cX7_outputAt 27 = .ok (.athrow, 1) := by decide +kernel
theorem dX7_outputAt_28 : decode cX7_outputAt 28 = .ok (.aload_n 0, 1) := by decide +kernel
theorem dX7_outputAt_29 : decode cX7_outputAt 29 = .ok (.getfield 46, 3) := by decide +kernel
theorem dX7_outputAt_32 : decode cX7_outputAt 32 = .ok (.getfield 289, 3) := by decide +kernel
theorem dX7_outputAt_35 : decode cX7_outputAt 35 = .ok (.iload_n 1, 1) := by decide +kernel
theorem dX7_outputAt_36 : decode cX7_outputAt 36 = .ok (.invokestatic 293, 3) := by decide +kernel
theorem dX7_outputAt_39 : decode cX7_outputAt 39 = .ok (.ireturn, 1) := by decide +kernel
theorem dX7_type_0 : decode cX7_type 0 = .ok (.iload_n 1, 1) := by decide +kernel
theorem dX7_type_1 : decode cX7_type 1 = .ok (.bipush 32, 2) := by decide +kernel
theorem dX7_type_3 : decode cX7_type 3 = .ok (.bipush 126, 2) := by decide +kernel
theorem dX7_type_5 : decode cX7_type 5 = .ok (.invokestatic 179, 3) := by decide +kernel
theorem dX7_type_8 : decode cX7_type 8 = .ok (.ifCond .ne 14, 3) := by decide +kernel
theorem dX7_type_11 : decode cX7_type 11 = .ok (.new 297, 3) := by decide +kernel
theorem dX7_type_14 : decode cX7_type 14 = .ok (.dup, 1) := by decide +kernel
theorem dX7_type_15 : decode cX7_type 15 = .ok (.ldc_w 299, 3) := by decide +kernel
theorem dX7_type_18 : decode cX7_type 18 = .ok (.invokespecial 301, 3) := by decide +kernel
theorem dX7_type_21 : decode cX7_type 21 = .ok (.athrow, 1) := by decide +kernel
theorem dX7_type_22 : decode cX7_type 22 = .ok (.aload_n 0, 1) := by decide +kernel
theorem dX7_type_23 : decode cX7_type 23 = .ok (.getfield 39, 3) := by decide +kernel
theorem dX7_type_26 : decode cX7_type 26 = .ok (.getfield 302, 3) := by decide +kernel
theorem dX7_type_29 : decode cX7_type 29 = .ok (.bipush 60, 2) := by decide +kernel
theorem dX7_type_31 : decode cX7_type 31 = .ok (.if_icmp .lt 14, 3) := by decide +kernel
theorem dX7_type_34 : decode cX7_type 34 = .ok (.new 303, 3) := by decide +kernel
theorem dX7_type_37 : decode cX7_type 37 = .ok (.dup, 1) := by decide +kernel
theorem dX7_type_38 : decode cX7_type 38 = .ok (.ldc_w 305, 3) := by decide +kernel
theorem dX7_type_41 : decode cX7_type 41 = .ok (.invokespecial 307, 3) := by decide +kernel
theorem dX7_type_44 : decode cX7_type 44 = .ok (.athrow, 1) := by decide +kernel
theorem dX7_type_45 : decode cX7_type 45 = .ok (.aload_n 0, 1) := by decide +kernel
theorem dX7_type_46 : decode cX7_type 46 = .ok (.getfield 39, 3) := by decide +kernel
theorem dX7_type_49 : decode cX7_type 49 = .ok (.iload_n 1, 1) := by decide +kernel
theorem dX7_type_50 : decode cX7_type 50 = .ok (.invokevirtual 308, 3) := by decide +kernel
theorem dX7_type_53 : decode cX7_type 53 = .ok (.aload_n 0, 1) := by decide +kernel
theorem dX7_type_54 : decode cX7_type 54 = .ok (.getfield 39, 3) := by decide +kernel
theorem dX7_type_57 : decode cX7_type 57 = .ok (.getfield 302, 3) := by decide +kernel
theorem dX7_type_60 : decode cX7_type 60 = .ok (.ireturn, 1) := by decide +kernel
theorem dX7_runScript_0 : decode cX7_runScript 0 = .ok (.aload_n 0, 1) := by decide +kernel
theorem dX7_runScript_1 : decode cX7_runScript 1 = .ok (.getfield 39, 3) := by decide +kernel
theorem dX7_runScript_4 : decode cX7_runScript 4 = .ok (.invokevirtual 310, 3) := by decide +kernel
theorem dX7_runScript_7 : decode cX7_runScript 7 = .ok (.istore_n 1, 1) := by decide +kernel
theorem dX7_runScript_8 : decode cX7_runScript 8 = .ok (.aload_n 0, 1) := by decide +kernel
theorem dX7_runScript_9 : decode cX7_runScript 9 = .ok (.getfield 39, 3) := by decide +kernel
theorem dX7_runScript_12 : decode cX7_runScript 12 = .ok (.invokevirtual 313, 3) := by decide +kernel
theorem dX7_runScript_15 : decode cX7_runScript 15 = .ok (.iload_n 1, 1) := by decide +kernel
theorem dX7_runScript_16 : decode cX7_runScript 16 = .ok (.ifCond .ne 25, 3) := by decide +kernel
theorem dX7_runScript_19 : decode cX7_runScript 19 = .ok (.aload_n 0, 1) := by decide +kernel
theorem dX7_runScript_20 : decode cX7_runScript 20 = .ok (.aload_n 0, 1) := by decide +kernel
theorem dX7_runScript_21 : decode cX7_runScript 21 = .ok (.getfield 39, 3) := by decide +kernel
theorem dX7_runScript_24 : decode cX7_runScript 24 = .ok (.getfield 314, 3) := by decide +kernel
theorem dX7_runScript_27 : decode cX7_runScript 27 = .ok (.putfield 54, 3) := by decide +kernel
theorem dX7_runScript_30 : decode cX7_runScript 30 = .ok (.new 297, 3) := by decide +kernel
theorem dX7_runScript_33 : decode cX7_runScript 33 = .ok (.dup, 1) := by decide +kernel
theorem dX7_runScript_34 : decode cX7_runScript 34 = .ok (.ldc_w 317, 3) := by decide +kernel
theorem dX7_runScript_37 : decode cX7_runScript 37 = .ok (.invokespecial 301, 3) := by decide +kernel
theorem dX7_runScript_40 : decode cX7_runScript 40 = .ok (.athrow, 1) := by decide +kernel
theorem dX7_runScript_41 : decode cX7_runScript 41 = .ok (.aload_n 0, 1) := by decide +kernel
theorem dX7_runScript_42 : decode cX7_runScript 42 = .ok (.getfield 16, 3) := by decide +kernel
theorem dX7_runScript_45 : decode cX7_runScript 45 = .ok (.aload_n 0, 1) := by decide +kernel
theorem dX7_runScript_46 : decode cX7_runScript 46 = .ok (.getfield 12, 3) := by decide +kernel
theorem dX7_runScript_49 : decode cX7_runScript 49 = .ok (.invokevirtual 319, 3) := by decide +kernel
theorem dX7_runScript_52 : decode cX7_runScript 52 = .ok (.iconst 0, 1) := by decide +kernel
theorem dX7_runScript_53 : decode cX7_runScript 53 = .ok (.istore_n 2, 1) := by decide +kernel
theorem dX7_runScript_54 : decode cX7_runScript 54 = .ok (.iload_n 2, 1) := by decide +kernel
theorem dX7_runScript_55 : decode cX7_runScript 55 = .ok (.aload_n 0, 1) := by decide +kernel
theorem dX7_runScript_56 : decode cX7_runScript 56 = .ok (.getfield 39, 3) := by decide +kernel
theorem dX7_runScript_59 : decode cX7_runScript 59 = .ok (.getfield 323, 3) := by decide +kernel
theorem dX7_runScript_62 : decode cX7_runScript 62 = .ok (.if_icmp .ge 42, 3) := by decide +kernel
theorem dX7_runScript_65 : decode cX7_runScript 65 = .ok (.aload_n 0, 1) := by decide +kernel
theorem dX7_runScript_66 : decode cX7_runScript 66 = .ok (.iload_n 2, 1) := by decide +kernel
theorem dX7_runScript_67 : decode cX7_runScript 67 = .ok (.invokevirtual 326, 3) := by decide +kernel
theorem dX7_runScript_70 : decode cX7_runScript 70 = .ok (.istore_n 3, 1) := by decide +kernel
theorem dX7_runScript_71 : decode cX7_runScript 71 = .ok (.iload_n 3, 1) := by decide +kernel
theorem dX7_runScript_72 : decode cX7_runScript 72 = .ok (.bipush 46, 2) := by decide +kernel
theorem dX7_runScript_74 : decode cX7_runScript 74 = .ok (.if_icmp .eq 24, 3) := by decide +kernel
theorem dX7_runScript_77 : decode cX7_runScript 77 = .ok (.aload_n 0, 1) := by decide +kernel
theorem dX7_runScript_78 : decode cX7_runScript 78 = .ok (.iload_n 2, 1) := by decide +kernel
theorem dX7_runScript_79 : decode cX7_runScript 79 = .ok (.putfield 58, 3) := by decide +kernel
theorem dX7_runScript_82 : decode cX7_runScript 82 = .ok (.aload_n 0, 1) := by decide +kernel
theorem dX7_runScript_83 : decode cX7_runScript 83 = .ok (.iload_n 3, 1) := by decide +kernel
theorem dX7_runScript_84 : decode cX7_runScript 84 = .ok (.putfield 61, 3) := by decide +kernel
theorem dX7_runScript_87 : decode cX7_runScript 87 = .ok (.new 303, 3) := by decide +kernel
theorem dX7_runScript_90 : decode cX7_runScript 90 = .ok (.dup, 1) := by decide +kernel
theorem dX7_runScript_91 : decode cX7_runScript 91 = .ok (.ldc_w 329, 3) := by decide +kernel
theorem dX7_runScript_94 : decode cX7_runScript 94 = .ok (.invokespecial 307, 3) := by decide +kernel
theorem dX7_runScript_97 : decode cX7_runScript 97 = .ok (.athrow, 1) := by decide +kernel
theorem dX7_runScript_98 : decode cX7_runScript 98 = .ok (.iinc 2 1, 3) := by decide +kernel
theorem dX7_runScript_101 : decode cX7_runScript 101 = .ok (.goto (-47), 3) := by decide +kernel
theorem dX7_runScript_104 : decode cX7_runScript 104 = .ok (.aload_n 0, 1) := by decide +kernel
theorem dX7_runScript_105 : decode cX7_runScript 105 = .ok (.invokevirtual 73, 3) := by decide +kernel
theorem dX7_runScript_108 : decode cX7_runScript 108 = .ok (.aload_n 0, 1) := by decide +kernel
theorem dX7_runScript_109 : decode cX7_runScript 109 = .ok (.getfield 12, 3) := by decide +kernel
theorem dX7_runScript_112 : decode cX7_runScript 112 = .ok (.aload_n 0, 1) := by decide +kernel
theorem dX7_runScript_113 : decode cX7_runScript 113 = .ok (.getfield 16, 3) := by decide +kernel
theorem dX7_runScript_116 : decode cX7_runScript 116 = .ok (.invokevirtual 319, 3) := by decide +kernel
theorem dX7_runScript_119 : decode cX7_runScript 119 = .ok (.aload_n 0, 1) := by decide +kernel
theorem dX7_runScript_120 : decode cX7_runScript 120 = .ok (.getfield 39, 3) := by decide +kernel
theorem dX7_runScript_123 : decode cX7_runScript 123 = .ok (.getfield 323, 3) := by decide +kernel
theorem dX7_runScript_126 : decode cX7_runScript 126 = .ok (.ireturn, 1) := by decide +kernel
theorem dX7_errorPosition_0 : decode cX7_errorPosition 0 = .ok (.aload_n 0, 1) := by decide +kernel
theorem dX7_errorPosition_1 : decode cX7_errorPosition 1 = .ok (.getfield 54, 3) := by decide +kernel
theorem dX7_errorPosition_4 : decode cX7_errorPosition 4 = .ok (.iconst (-1), 1) := by decide +kernel
theorem dX7_errorPosition_5 : decode cX7_errorPosition 5 = .ok (.if_icmp .ne 14, 3) := by decide +kernel
theorem dX7_errorPosition_8 : decode cX7_errorPosition 8 = .ok (.new 183, 3) := by decide +kernel
theorem dX7_errorPosition_11 : decode cX7_errorPosition 11 = .ok (.dup, 1) := by decide +kernel
theorem dX7_errorPosition_12 : decode cX7_errorPosition 12 = .ok (.ldc_w 331, 3) := by decide +kernel
theorem dX7_errorPosition_15 : decode cX7_errorPosition 15 = .ok (.invokespecial 187, 3) := by decide +kernel
theorem dX7_errorPosition_18 : decode cX7_errorPosition 18 = .ok (.athrow, 1) := by decide +kernel
theorem dX7_errorPosition_19 : decode cX7_errorPosition 19 = .ok (.aload_n 0, 1) := by decide +kernel
theorem dX7_errorPosition_20 : decode cX7_errorPosition 20 = .ok (.getfield 54, 3) := by decide +kernel
theorem dX7_errorPosition_23 : decode cX7_errorPosition 23 = .ok (.ireturn, 1) := by decide +kernel
theorem dX7_failedCommand_0 : decode cX7_failedCommand 0 = .ok (.aload_n 0, 1) := by decide +kernel
theorem dX7_failedCommand_1 : decode cX7_failedCommand 1 = .ok (.invokevirtual 333, 3) := by decide +kernel
theorem dX7_failedCommand_4 : decode cX7_failedCommand 4 = .ok (.aload_n 0, 1) := by decide +kernel
theorem dX7_failedCommand_5 : decode cX7_failedCommand 5 = .ok (.getfield 58, 3) := by decide +kernel
theorem dX7_failedCommand_8 : decode cX7_failedCommand 8 = .ok (.ireturn, 1) := by decide +kernel
theorem dX7_failureReason_0 : decode cX7_failureReason 0 = .ok (.aload_n 0, 1) := by decide +kernel
theorem dX7_failureReason_1 : decode cX7_failureReason 1 = .ok (.invokevirtual 333, 3) := by decide +kernel
theorem dX7_failureReason_4 : decode cX7_failureReason 4 = .ok (.aload_n 0, 1) := by decide +kernel
theorem dX7_failureReason_5 : decode cX7_failureReason 5 = .ok (.getfield 61, 3) := by decide +kernel
theorem dX7_failureReason_8 : decode cX7_failureReason 8 = .ok (.ireturn, 1) := by decide +kernel
theorem dX7_undo_0 : decode cX7_undo 0 = .ok (.aload_n 0, 1) := by decide +kernel
theorem dX7_undo_1 : decode cX7_undo 1 = .ok (.getfield 25, 3) := by decide +kernel
theorem dX7_undo_4 : decode cX7_undo 4 = .ok (.getfield 336, 3) := by decide +kernel
theorem dX7_undo_7 : decode cX7_undo 7 = .ok (.ifCond .ne 14, 3) := by decide +kernel
theorem dX7_undo_10 : decode cX7_undo 10 = .ok (.new 303, 3) := by decide +kernel
theorem dX7_undo_13 : decode cX7_undo 13 = .ok (.dup, 1) := by decide +kernel
theorem dX7_undo_14 : decode cX7_undo 14 = .ok (.ldc_w 337, 3) := by decide +kernel
theorem dX7_undo_17 : decode cX7_undo 17 = .ok (.invokespecial 307, 3) := by decide +kernel
theorem dX7_undo_20 : decode cX7_undo 20 = .ok (.athrow, 1) := by decide +kernel
theorem dX7_undo_21 : decode cX7_undo 21 = .ok (.aload_n 0, 1) := by decide +kernel
theorem dX7_undo_22 : decode cX7_undo 22 = .ok (.getfield 25, 3) := by decide +kernel
theorem dX7_undo_25 : decode cX7_undo 25 = .ok (.aload_n 0, 1) := by decide +kernel
theorem dX7_undo_26 : decode cX7_undo 26 = .ok (.getfield 12, 3) := by decide +kernel
theorem dX7_undo_29 : decode cX7_undo 29 = .ok (.invokevirtual 339, 3) := by decide +kernel
theorem dX7_undo_32 : decode cX7_undo 32 = .ok (.aload_n 0, 1) := by decide +kernel
theorem dX7_undo_33 : decode cX7_undo 33 = .ok (.iconst 0, 1) := by decide +kernel
theorem dX7_undo_34 : decode cX7_undo 34 = .ok (.putfield 342, 3) := by decide +kernel
theorem dX7_undo_37 : decode cX7_undo 37 = .ok (.aload_n 0, 1) := by decide +kernel
theorem dX7_undo_38 : decode cX7_undo 38 = .ok (.getfield 25, 3) := by decide +kernel
theorem dX7_undo_41 : decode cX7_undo 41 = .ok (.getfield 336, 3) := by decide +kernel
theorem dX7_undo_44 : decode cX7_undo 44 = .ok (.ireturn, 1) := by decide +kernel
theorem dX7_save_0 : decode cX7_save 0 = .ok (.aload_n 0, 1) := by decide +kernel
theorem dX7_save_1 : decode cX7_save 1 = .ok (.getfield 19, 3) := by decide +kernel
theorem dX7_save_4 : decode cX7_save 4 = .ok (.aload_n 0, 1) := by decide +kernel
theorem dX7_save_5 : decode cX7_save 5 = .ok (.getfield 12, 3) := by decide +kernel
theorem dX7_save_8 : decode cX7_save 8 = .ok (.invokevirtual 319, 3) := by decide +kernel
theorem dX7_save_11 : decode cX7_save 11 = .ok (.aload_n 0, 1) := by decide +kernel
theorem dX7_save_12 : decode cX7_save 12 = .ok (.iconst 1, 1) := by decide +kernel
theorem dX7_save_13 : decode cX7_save 13 = .ok (.putfield 345, 3) := by decide +kernel
theorem dX7_save_16 : decode cX7_save 16 = .ok (.aload_n 0, 1) := by decide +kernel
theorem dX7_save_17 : decode cX7_save 17 = .ok (.getfield 12, 3) := by decide +kernel
theorem dX7_save_20 : decode cX7_save 20 = .ok (.getfield 88, 3) := by decide +kernel
theorem dX7_save_23 : decode cX7_save 23 = .ok (.ireturn, 1) := by decide +kernel
theorem dX7_restore_0 : decode cX7_restore 0 = .ok (.aload_n 0, 1) := by decide +kernel
theorem dX7_restore_1 : decode cX7_restore 1 = .ok (.getfield 345, 3) := by decide +kernel
theorem dX7_restore_4 : decode cX7_restore 4 = .ok (.ifCond .ne 14, 3) := by decide +kernel
theorem dX7_restore_7 : decode cX7_restore 7 = .ok (.new 303, 3) := by decide +kernel
theorem dX7_restore_10 : decode cX7_restore 10 = .ok (.dup, 1) := by decide +kernel
theorem dX7_restore_11 : decode cX7_restore 11 = .ok (.ldc_w 348, 3) := by decide +kernel
theorem dX7_restore_14 : decode cX7_restore 14 = .ok (.invokespecial 307, 3) := by decide +kernel
theorem dX7_restore_17 : decode cX7_restore 17 = .ok (.athrow, 1) := by decide +kernel
theorem dX7_restore_18 : decode cX7_restore 18 = .ok (.aload_n 0, 1) := by decide +kernel
theorem dX7_restore_19 : decode cX7_restore 19 = .ok (.getfield 12, 3) := by decide +kernel
theorem dX7_restore_22 : decode cX7_restore 22 = .ok (.aload_n 0, 1) := by decide +kernel
theorem dX7_restore_23 : decode cX7_restore 23 = .ok (.getfield 19, 3) := by decide +kernel
theorem dX7_restore_26 : decode cX7_restore 26 = .ok (.invokevirtual 319, 3) := by decide +kernel
theorem dX7_restore_29 : decode cX7_restore 29 = .ok (.aload_n 0, 1) := by decide +kernel
theorem dX7_restore_30 : decode cX7_restore 30 = .ok (.iconst 0, 1) := by decide +kernel
theorem dX7_restore_31 : decode cX7_restore 31 = .ok (.putfield 342, 3) := by decide +kernel
theorem dX7_restore_34 : decode cX7_restore 34 = .ok (.aload_n 0, 1) := by decide +kernel
theorem dX7_restore_35 : decode cX7_restore 35 = .ok (.getfield 25, 3) := by decide +kernel
theorem dX7_restore_38 : decode cX7_restore 38 = .ok (.invokevirtual 350, 3) := by decide +kernel
theorem dX7_restore_41 : decode cX7_restore 41 = .ok (.aload_n 0, 1) := by decide +kernel
theorem dX7_restore_42 : decode cX7_restore 42 = .ok (.getfield 12, 3) := by decide +kernel
theorem dX7_restore_45 : decode cX7_restore 45 = .ok (.getfield 88, 3) := by decide +kernel
theorem dX7_restore_48 : decode cX7_restore 48 = .ok (.ireturn, 1) := by decide +kernel
theorem dX7_beginChange_0 : decode cX7_beginChange 0 = .ok (.aload_n 0, 1) := by decide +kernel
theorem dX7_beginChange_1 : decode cX7_beginChange 1 = .ok (.getfield 25, 3) := by decide +kernel
theorem dX7_beginChange_4 : decode cX7_beginChange 4 = .ok (.aload_n 0, 1) := by decide +kernel
theorem dX7_beginChange_5 : decode cX7_beginChange 5 = .ok (.getfield 12, 3) := by decide +kernel
theorem dX7_beginChange_8 : decode cX7_beginChange 8 = .ok (.invokevirtual 351, 3) := by decide +kernel
theorem dX7_beginChange_11 : decode cX7_beginChange 11 = .ok (.aload_n 0, 1) := by decide +kernel
theorem dX7_beginChange_12 : decode cX7_beginChange 12 = .ok (.iconst 0, 1) := by decide +kernel
theorem dX7_beginChange_13 : decode cX7_beginChange 13 = .ok (.putfield 342, 3) := by decide +kernel
theorem dX7_beginChange_16 : decode cX7_beginChange 16 = .ok (.return_, 1) := by decide +kernel
theorem dX7_currentPlan_0 : decode cX7_currentPlan 0 = .ok (.aload_n 0, 1) := by decide +kernel
theorem dX7_currentPlan_1 : decode cX7_currentPlan 1 = .ok (.getfield 342, 3) := by decide +kernel
theorem dX7_currentPlan_4 : decode cX7_currentPlan 4 = .ok (.ifCond .ne 19, 3) := by decide +kernel
theorem dX7_currentPlan_7 : decode cX7_currentPlan 7 = .ok (.aload_n 0, 1) := by decide +kernel
theorem dX7_currentPlan_8 : decode cX7_currentPlan 8 = .ok (.getfield 32, 3) := by decide +kernel
theorem dX7_currentPlan_11 : decode cX7_currentPlan 11 = .ok (.aload_n 0, 1) := by decide +kernel
theorem dX7_currentPlan_12 : decode cX7_currentPlan 12 = .ok (.getfield 12, 3) := by decide +kernel
theorem dX7_currentPlan_15 : decode cX7_currentPlan 15 = .ok (.invokevirtual 354, 3) := by decide +kernel
theorem dX7_currentPlan_18 : decode cX7_currentPlan 18 = .ok (.aload_n 0, 1) := by decide +kernel
theorem dX7_currentPlan_19 : decode cX7_currentPlan 19 = .ok (.iconst 1, 1) := by decide +kernel
theorem dX7_currentPlan_20 : decode cX7_currentPlan 20 = .ok (.putfield 342, 3) := by decide +kernel
theorem dX7_currentPlan_23 : decode cX7_currentPlan 23 = .ok (.aload_n 0, 1) := by decide +kernel
theorem dX7_currentPlan_24 : decode cX7_currentPlan 24 = .ok (.getfield 32, 3) := by decide +kernel
theorem dX7_currentPlan_27 : decode cX7_currentPlan 27 = .ok (.areturn, 1) := by decide +kernel
theorem dX7_runCommand_0 : decode cX7_runCommand 0 = .ok (.aload_n 0, 1) := by decide +kernel
theorem dX7_runCommand_1 : decode cX7_runCommand 1 = .ok (.getfield 39, 3) := by decide +kernel
theorem dX7_runCommand_4 : decode cX7_runCommand 4 = .ok (.iload_n 1, 1) := by decide +kernel
theorem dX7_runCommand_5 : decode cX7_runCommand 5 = .ok (.invokevirtual 357, 3) := by decide +kernel
theorem dX7_runCommand_8 : decode cX7_runCommand 8 = .ok (.astore_n 2, 1) := by decide +kernel
theorem dX7_runCommand_9 : decode cX7_runCommand 9 = .ok (.aload_n 2, 1) := by decide +kernel
theorem dX7_runCommand_10 : decode cX7_runCommand 10 = .ok (.ifnonnull 6, 3) := by decide +kernel
theorem dX7_runCommand_13 : decode cX7_runCommand 13 = .ok (.bipush 46, 2) := by decide +kernel
theorem dX7_runCommand_15 : decode cX7_runCommand 15 = .ok (.ireturn, 1) := by decide +kernel
theorem dX7_runCommand_16 : decode cX7_runCommand 16 = .ok (.aload_n 0, 1) := by decide +kernel
theorem dX7_runCommand_17 : decode cX7_runCommand 17 = .ok (.getfield 39, 3) := by decide +kernel
theorem dX7_runCommand_20 : decode cX7_runCommand 20 = .ok (.iload_n 1, 1) := by decide +kernel
theorem dX7_runCommand_21 : decode cX7_runCommand 21 = .ok (.iconst 0, 1) := by decide +kernel
theorem dX7_runCommand_22 : decode cX7_runCommand 22 = .ok (.invokevirtual 361, 3) := by decide +kernel
theorem dX7_runCommand_25 : decode cX7_runCommand 25 = .ok (.istore_n 3, 1) := by decide +kernel
theorem dX7_runCommand_26 : decode cX7_runCommand 26 = .ok (.aload_n 0, 1) := by decide +kernel
theorem dX7_runCommand_27 : decode cX7_runCommand 27 = .ok (.getfield 39, 3) := by decide +kernel
theorem dX7_runCommand_30 : decode cX7_runCommand 30 = .ok (.iload_n 1, 1) := by decide +kernel
theorem dX7_runCommand_31 : decode cX7_runCommand 31 = .ok (.iconst 1, 1) := by decide +kernel
theorem dX7_runCommand_32 : decode cX7_runCommand 32 = .ok (.invokevirtual 361, 3) := by decide +kernel
theorem dX7_runCommand_35 : decode cX7_runCommand 35 = .ok (.istore 4, 2) := by decide +kernel
theorem dX7_runCommand_37 : decode cX7_runCommand 37 = .ok (.getstatic 364, 3) := by decide +kernel
theorem dX7_runCommand_40 : decode cX7_runCommand 40 = .ok (.aload_n 2, 1) := by decide +kernel
theorem dX7_runCommand_41 : decode cX7_runCommand 41 = .ok (.invokevirtual 369, 3) := by decide +kernel
theorem dX7_runCommand_44 : decode cX7_runCommand 44 = .ok (.iaload, 1) := by decide +kernel
theorem dX7_runCommand_45 : decode cX7_runCommand 45 = .ok (.tableswitch 233 1 7 #[43, 69, 97, 129, 161, 185, 209], 43) := by decide +kernel
theorem dX7_runCommand_88 : decode cX7_runCommand 88 = .ok (.aload_n 0, 1) := by decide +kernel
theorem dX7_runCommand_89 : decode cX7_runCommand 89 = .ok (.iload_n 3, 1) := by decide +kernel
theorem dX7_runCommand_90 : decode cX7_runCommand 90 = .ok (.iload 4, 2) := by decide +kernel
theorem dX7_runCommand_92 : decode cX7_runCommand 92 = .ok (.aload_n 0, 1) := by decide +kernel
theorem dX7_runCommand_93 : decode cX7_runCommand 93 = .ok (.getfield 39, 3) := by decide +kernel
theorem dX7_runCommand_96 : decode cX7_runCommand 96 = .ok (.iload_n 1, 1) := by decide +kernel
theorem dX7_runCommand_97 : decode cX7_runCommand 97 = .ok (.iconst 2, 1) := by decide +kernel
theorem dX7_runCommand_98 : decode cX7_runCommand 98 = .ok (.invokevirtual 361, 3) := by decide +kernel
theorem dX7_runCommand_101 : decode cX7_runCommand 101 = .ok (.aload_n 0, 1) := by decide +kernel
theorem dX7_runCommand_102 : decode cX7_runCommand 102 = .ok (.getfield 39, 3) := by decide +kernel
theorem dX7_runCommand_105 : decode cX7_runCommand 105 = .ok (.iload_n 1, 1) := by decide +kernel
theorem dX7_runCommand_106 : decode cX7_runCommand 106 = .ok (.iconst 3, 1) := by decide +kernel
theorem dX7_runCommand_107 : decode cX7_runCommand 107 = .ok (.invokevirtual 361, 3) := by decide +kernel
theorem dX7_runCommand_110 : decode cX7_runCommand 110 = .ok (.invokevirtual 375, 3) := by decide +kernel
theorem dX7_runCommand_113 : decode cX7_runCommand 113 = .ok (.ireturn, 1) := by decide +kernel
theorem dX7_runCommand_114 : decode cX7_runCommand 114 = .ok (.aload_n 0, 1) := by decide +kernel
theorem dX7_runCommand_115 : decode cX7_runCommand 115 = .ok (.getfield 16, 3) := by decide +kernel
theorem dX7_runCommand_118 : decode cX7_runCommand 118 = .ok (.iload_n 3, 1) := by decide +kernel
theorem dX7_runCommand_119 : decode cX7_runCommand 119 = .ok (.invokevirtual 80, 3) := by decide +kernel
theorem dX7_runCommand_122 : decode cX7_runCommand 122 = .ok (.istore 5, 2) := by decide +kernel
theorem dX7_runCommand_124 : decode cX7_runCommand 124 = .ok (.iload 5, 2) := by decide +kernel
theorem dX7_runCommand_126 : decode cX7_runCommand 126 = .ok (.bipush 46, 2) := by decide +kernel
theorem dX7_runCommand_128 : decode cX7_runCommand 128 = .ok (.if_icmp .ne 11, 3) := by decide +kernel
theorem dX7_runCommand_131 : decode cX7_runCommand 131 = .ok (.aload_n 0, 1) := by decide +kernel
theorem dX7_runCommand_132 : decode cX7_runCommand 132 = .ok (.getfield 16, 3) := by decide +kernel
theorem dX7_runCommand_135 : decode cX7_runCommand 135 = .ok (.iload_n 3, 1) := by decide +kernel
theorem dX7_runCommand_136 : decode cX7_runCommand 136 = .ok (.invokevirtual 84, 3) := by decide +kernel
theorem dX7_runCommand_139 : decode cX7_runCommand 139 = .ok (.iload 5, 2) := by decide +kernel
theorem dX7_runCommand_141 : decode cX7_runCommand 141 = .ok (.ireturn, 1) := by decide +kernel
theorem dX7_runCommand_142 : decode cX7_runCommand 142 = .ok (.aload_n 0, 1) := by decide +kernel
theorem dX7_runCommand_143 : decode cX7_runCommand 143 = .ok (.getfield 16, 3) := by decide +kernel
theorem dX7_runCommand_146 : decode cX7_runCommand 146 = .ok (.iload_n 3, 1) := by decide +kernel
theorem dX7_runCommand_147 : decode cX7_runCommand 147 = .ok (.iload 4, 2) := by decide +kernel
theorem dX7_runCommand_149 : decode cX7_runCommand 149 = .ok (.invokevirtual 91, 3) := by decide +kernel
theorem dX7_runCommand_152 : decode cX7_runCommand 152 = .ok (.istore 5, 2) := by decide +kernel
theorem dX7_runCommand_154 : decode cX7_runCommand 154 = .ok (.iload 5, 2) := by decide +kernel
theorem dX7_runCommand_156 : decode cX7_runCommand 156 = .ok (.bipush 46, 2) := by decide +kernel
theorem dX7_runCommand_158 : decode cX7_runCommand 158 = .ok (.if_icmp .ne 13, 3) := by decide +kernel
theorem dX7_runCommand_161 : decode cX7_runCommand 161 = .ok (.aload_n 0, 1) := by decide +kernel
theorem dX7_runCommand_162 : decode cX7_runCommand 162 = .ok (.getfield 16, 3) := by decide +kernel
theorem dX7_runCommand_165 : decode cX7_runCommand 165 = .ok (.iload_n 3, 1) := by decide +kernel
theorem dX7_runCommand_166 : decode cX7_runCommand 166 = .ok (.iload 4, 2) := by decide +kernel
theorem dX7_runCommand_168 : decode cX7_runCommand 168 = .ok (.invokevirtual 99, 3) := by decide +kernel
theorem dX7_runCommand_171 : decode cX7_runCommand 171 = .ok (.iload 5, 2) := by decide +kernel
theorem dX7_runCommand_173 : decode cX7_runCommand 173 = .ok (.ireturn, 1) := by decide +kernel
theorem dX7_runCommand_174 : decode cX7_runCommand 174 = .ok (.aload_n 0, 1) := by decide +kernel
theorem dX7_runCommand_175 : decode cX7_runCommand 175 = .ok (.getfield 16, 3) := by decide +kernel
theorem dX7_runCommand_178 : decode cX7_runCommand 178 = .ok (.iload_n 3, 1) := by decide +kernel
theorem dX7_runCommand_179 : decode cX7_runCommand 179 = .ok (.iload 4, 2) := by decide +kernel
theorem dX7_runCommand_181 : decode cX7_runCommand 181 = .ok (.invokevirtual 103, 3) := by decide +kernel
theorem dX7_runCommand_184 : decode cX7_runCommand 184 = .ok (.istore 5, 2) := by decide +kernel
theorem dX7_runCommand_186 : decode cX7_runCommand 186 = .ok (.iload 5, 2) := by decide +kernel
theorem dX7_runCommand_188 : decode cX7_runCommand 188 = .ok (.bipush 46, 2) := by decide +kernel
theorem dX7_runCommand_190 : decode cX7_runCommand 190 = .ok (.if_icmp .ne 13, 3) := by decide +kernel
theorem dX7_runCommand_193 : decode cX7_runCommand 193 = .ok (.aload_n 0, 1) := by decide +kernel
theorem dX7_runCommand_194 : decode cX7_runCommand 194 = .ok (.getfield 16, 3) := by decide +kernel
theorem dX7_runCommand_197 : decode cX7_runCommand 197 = .ok (.iload_n 3, 1) := by decide +kernel
theorem dX7_runCommand_198 : decode cX7_runCommand 198 = .ok (.iload 4, 2) := by decide +kernel
theorem dX7_runCommand_200 : decode cX7_runCommand 200 = .ok (.invokevirtual 106, 3) := by decide +kernel
theorem dX7_runCommand_203 : decode cX7_runCommand 203 = .ok (.iload 5, 2) := by decide +kernel
theorem dX7_runCommand_205 : decode cX7_runCommand 205 = .ok (.ireturn, 1) := by decide +kernel
theorem dX7_runCommand_206 : decode cX7_runCommand 206 = .ok (.aload_n 0, 1) := by decide +kernel
theorem dX7_runCommand_207 : decode cX7_runCommand 207 = .ok (.getfield 16, 3) := by decide +kernel
theorem dX7_runCommand_210 : decode cX7_runCommand 210 = .ok (.iload_n 3, 1) := by decide +kernel
theorem dX7_runCommand_211 : decode cX7_runCommand 211 = .ok (.iload 4, 2) := by decide +kernel
theorem dX7_runCommand_213 : decode cX7_runCommand 213 = .ok (.invokevirtual 129, 3) := by decide +kernel
theorem dX7_runCommand_216 : decode cX7_runCommand 216 = .ok (.aload_n 0, 1) := by decide +kernel
theorem dX7_runCommand_217 : decode cX7_runCommand 217 = .ok (.getfield 16, 3) := by decide +kernel
theorem dX7_runCommand_220 : decode cX7_runCommand 220 = .ok (.getfield 132, 3) := by decide +kernel
theorem dX7_runCommand_223 : decode cX7_runCommand 223 = .ok (.iload_n 3, 1) := by decide +kernel
theorem dX7_runCommand_224 : decode cX7_runCommand 224 = .ok (.iload 4, 2) := by decide +kernel
theorem dX7_runCommand_226 : decode cX7_runCommand 226 = .ok (.invokestatic 378, 3) := by decide +kernel
theorem dX7_runCommand_229 : decode cX7_runCommand 229 = .ok (.ireturn, 1) := by decide +kernel
theorem dX7_runCommand_230 : decode cX7_runCommand 230 = .ok (.aload_n 0, 1) := by decide +kernel
theorem dX7_runCommand_231 : decode cX7_runCommand 231 = .ok (.getfield 16, 3) := by decide +kernel
theorem dX7_runCommand_234 : decode cX7_runCommand 234 = .ok (.iload_n 3, 1) := by decide +kernel
theorem dX7_runCommand_235 : decode cX7_runCommand 235 = .ok (.iload 4, 2) := by decide +kernel
theorem dX7_runCommand_237 : decode cX7_runCommand 237 = .ok (.invokevirtual 109, 3) := by decide +kernel
theorem dX7_runCommand_240 : decode cX7_runCommand 240 = .ok (.aload_n 0, 1) := by decide +kernel
theorem dX7_runCommand_241 : decode cX7_runCommand 241 = .ok (.getfield 16, 3) := by decide +kernel
theorem dX7_runCommand_244 : decode cX7_runCommand 244 = .ok (.getfield 112, 3) := by decide +kernel
theorem dX7_runCommand_247 : decode cX7_runCommand 247 = .ok (.iload_n 3, 1) := by decide +kernel
theorem dX7_runCommand_248 : decode cX7_runCommand 248 = .ok (.iload 4, 2) := by decide +kernel
theorem dX7_runCommand_250 : decode cX7_runCommand 250 = .ok (.invokestatic 378, 3) := by decide +kernel
theorem dX7_runCommand_253 : decode cX7_runCommand 253 = .ok (.ireturn, 1) := by decide +kernel
theorem dX7_runCommand_254 : decode cX7_runCommand 254 = .ok (.aload_n 0, 1) := by decide +kernel
theorem dX7_runCommand_255 : decode cX7_runCommand 255 = .ok (.getfield 16, 3) := by decide +kernel
theorem dX7_runCommand_258 : decode cX7_runCommand 258 = .ok (.iload_n 3, 1) := by decide +kernel
theorem dX7_runCommand_259 : decode cX7_runCommand 259 = .ok (.iload 4, 2) := by decide +kernel
theorem dX7_runCommand_261 : decode cX7_runCommand 261 = .ok (.invokevirtual 123, 3) := by decide +kernel
theorem dX7_runCommand_264 : decode cX7_runCommand 264 = .ok (.aload_n 0, 1) := by decide +kernel
theorem dX7_runCommand_265 : decode cX7_runCommand 265 = .ok (.getfield 16, 3) := by decide +kernel
theorem dX7_runCommand_268 : decode cX7_runCommand 268 = .ok (.getfield 126, 3) := by decide +kernel
theorem dX7_runCommand_271 : decode cX7_runCommand 271 = .ok (.iload_n 3, 1) := by decide +kernel
theorem dX7_runCommand_272 : decode cX7_runCommand 272 = .ok (.iload 4, 2) := by decide +kernel
theorem dX7_runCommand_274 : decode cX7_runCommand 274 = .ok (.invokestatic 378, 3) := by decide +kernel
theorem dX7_runCommand_277 : decode cX7_runCommand 277 = .ok (.ireturn, 1) := by decide +kernel
theorem dX7_runCommand_278 : decode cX7_runCommand 278 = .ok (.aload_n 0, 1) := by decide +kernel
theorem dX7_runCommand_279 : decode cX7_runCommand 279 = .ok (.invokevirtual 382, 3) := by decide +kernel
theorem dX7_runCommand_282 : decode cX7_runCommand 282 = .ok (.bipush 46, 2) := by decide +kernel
theorem dX7_runCommand_284 : decode cX7_runCommand 284 = .ok (.ireturn, 1) := by decide +kernel
theorem dX7_runAdding_0 : decode cX7_runAdding 0 = .ok (.aload_n 0, 1) := by decide +kernel
theorem dX7_runAdding_1 : decode cX7_runAdding 1 = .ok (.getfield 16, 3) := by decide +kernel
theorem dX7_runAdding_4 : decode cX7_runAdding 4 = .ok (.iload_n 1, 1) := by decide +kernel
theorem dX7_runAdding_5 : decode cX7_runAdding 5 = .ok (.iload_n 2, 1) := by decide +kernel
theorem dX7_runAdding_6 : decode cX7_runAdding 6 = .ok (.iload_n 3, 1) := by decide +kernel
theorem dX7_runAdding_7 : decode cX7_runAdding 7 = .ok (.iload 4, 2) := by decide +kernel
theorem dX7_runAdding_9 : decode cX7_runAdding 9 = .ok (.invokevirtual 65, 3) := by decide +kernel
theorem dX7_runAdding_12 : decode cX7_runAdding 12 = .ok (.istore 5, 2) := by decide +kernel
theorem dX7_runAdding_14 : decode cX7_runAdding 14 = .ok (.iload 5, 2) := by decide +kernel
theorem dX7_runAdding_16 : decode cX7_runAdding 16 = .ok (.bipush 46, 2) := by decide +kernel
theorem dX7_runAdding_18 : decode cX7_runAdding 18 = .ok (.if_icmp .ne 16, 3) := by decide +kernel
theorem dX7_runAdding_21 : decode cX7_runAdding 21 = .ok (.aload_n 0, 1) := by decide +kernel
theorem dX7_runAdding_22 : decode cX7_runAdding 22 = .ok (.getfield 16, 3) := by decide +kernel
theorem dX7_runAdding_25 : decode cX7_runAdding 25 = .ok (.iload_n 1, 1) := by decide +kernel
theorem dX7_runAdding_26 : decode cX7_runAdding 26 = .ok (.iload_n 2, 1) := by decide +kernel
theorem dX7_runAdding_27 : decode cX7_runAdding 27 = .ok (.iload_n 3, 1) := by decide +kernel
theorem dX7_runAdding_28 : decode cX7_runAdding 28 = .ok (.iload 4, 2) := by decide +kernel
theorem dX7_runAdding_30 : decode cX7_runAdding 30 = .ok (.invokevirtual 76, 3) := by decide +kernel
theorem dX7_runAdding_33 : decode cX7_runAdding 33 = .ok (.pop, 1) := by decide +kernel
theorem dX7_runAdding_34 : decode cX7_runAdding 34 = .ok (.iload 5, 2) := by decide +kernel
theorem dX7_runAdding_36 : decode cX7_runAdding 36 = .ok (.ireturn, 1) := by decide +kernel
theorem dX7_runSetting_0 : decode cX7_runSetting 0 = .ok (.iload_n 0, 1) := by decide +kernel
theorem dX7_runSetting_1 : decode cX7_runSetting 1 = .ok (.bipush 46, 2) := by decide +kernel
theorem dX7_runSetting_3 : decode cX7_runSetting 3 = .ok (.if_icmp .ne 9, 3) := by decide +kernel
theorem dX7_runSetting_6 : decode cX7_runSetting 6 = .ok (.aload_n 1, 1) := by decide +kernel
theorem dX7_runSetting_7 : decode cX7_runSetting 7 = .ok (.iload_n 2, 1) := by decide +kernel
theorem dX7_runSetting_8 : decode cX7_runSetting 8 = .ok (.iload_n 3, 1) := by decide +kernel
theorem dX7_runSetting_9 : decode cX7_runSetting 9 = .ok (.invokestatic 119, 3) := by decide +kernel
theorem dX7_runSetting_12 : decode cX7_runSetting 12 = .ok (.iload_n 0, 1) := by decide +kernel
theorem dX7_runSetting_13 : decode cX7_runSetting 13 = .ok (.ireturn, 1) := by decide +kernel
theorem dX7_markTrial_0 : decode cX7_markTrial 0 = .ok (.aload_n 0, 1) := by decide +kernel
theorem dX7_markTrial_1 : decode cX7_markTrial 1 = .ok (.getfield 32, 3) := by decide +kernel
theorem dX7_markTrial_4 : decode cX7_markTrial 4 = .ok (.aload_n 0, 1) := by decide +kernel
theorem dX7_markTrial_5 : decode cX7_markTrial 5 = .ok (.getfield 16, 3) := by decide +kernel
theorem dX7_markTrial_8 : decode cX7_markTrial 8 = .ok (.invokevirtual 354, 3) := by decide +kernel
theorem dX7_markTrial_11 : decode cX7_markTrial 11 = .ok (.aload_n 0, 1) := by decide +kernel
theorem dX7_markTrial_12 : decode cX7_markTrial 12 = .ok (.iconst 0, 1) := by decide +kernel
theorem dX7_markTrial_13 : decode cX7_markTrial 13 = .ok (.putfield 342, 3) := by decide +kernel
theorem dX7_markTrial_16 : decode cX7_markTrial 16 = .ok (.aload_n 0, 1) := by decide +kernel
theorem dX7_markTrial_17 : decode cX7_markTrial 17 = .ok (.getfield 16, 3) := by decide +kernel
theorem dX7_markTrial_20 : decode cX7_markTrial 20 = .ok (.aload_n 0, 1) := by decide +kernel
theorem dX7_markTrial_21 : decode cX7_markTrial 21 = .ok (.getfield 32, 3) := by decide +kernel
theorem dX7_markTrial_24 : decode cX7_markTrial 24 = .ok (.getfield 139, 3) := by decide +kernel
theorem dX7_markTrial_27 : decode cX7_markTrial 27 = .ok (.invokevirtual 142, 3) := by decide +kernel
theorem dX7_markTrial_30 : decode cX7_markTrial 30 = .ok (.return_, 1) := by decide +kernel
theorem dX7_isWorkedOn_0 : decode cX7_isWorkedOn 0 = .ok (.aload_n 0, 1) := by decide +kernel
theorem dX7_isWorkedOn_1 : decode cX7_isWorkedOn 1 = .ok (.invokevirtual 135, 3) := by decide +kernel
theorem dX7_isWorkedOn_4 : decode cX7_isWorkedOn 4 = .ok (.getfield 139, 3) := by decide +kernel
theorem dX7_isWorkedOn_7 : decode cX7_isWorkedOn 7 = .ok (.iload_n 1, 1) := by decide +kernel
theorem dX7_isWorkedOn_8 : decode cX7_isWorkedOn 8 = .ok (.invokestatic 115, 3) := by decide +kernel
theorem dX7_isWorkedOn_11 : decode cX7_isWorkedOn 11 = .ok (.istore_n 3, 1) := by decide +kernel
theorem dX7_isWorkedOn_12 : decode cX7_isWorkedOn 12 = .ok (.iload_n 2, 1) := by decide +kernel
theorem dX7_isWorkedOn_13 : decode cX7_isWorkedOn 13 = .ok (.iload_n 3, 1) := by decide +kernel
theorem dX7_isWorkedOn_14 : decode cX7_isWorkedOn 14 = .ok (.if_icmp .lt 24, 3) := by decide +kernel
theorem dX7_isWorkedOn_17 : decode cX7_isWorkedOn 17 = .ok (.iload_n 2, 1) := by decide +kernel
theorem dX7_isWorkedOn_18 : decode cX7_isWorkedOn 18 = .ok (.iload_n 3, 1) := by decide +kernel
theorem dX7_isWorkedOn_19 : decode cX7_isWorkedOn 19 = .ok (.aload_n 0, 1) := by decide +kernel
theorem dX7_isWorkedOn_20 : decode cX7_isWorkedOn 20 = .ok (.getfield 12, 3) := by decide +kernel
theorem dX7_isWorkedOn_23 : decode cX7_isWorkedOn 23 = .ok (.getfield 112, 3) := by decide +kernel
theorem dX7_isWorkedOn_26 : decode cX7_isWorkedOn 26 = .ok (.iload_n 1, 1) := by decide +kernel
theorem dX7_isWorkedOn_27 : decode cX7_isWorkedOn 27 = .ok (.invokestatic 115, 3) := by decide +kernel
theorem dX7_isWorkedOn_30 : decode cX7_isWorkedOn 30 = .ok (.iadd, 1) := by decide +kernel
theorem dX7_isWorkedOn_31 : decode cX7_isWorkedOn 31 = .ok (.if_icmp .ge 7, 3) := by decide +kernel
theorem dX7_isWorkedOn_34 : decode cX7_isWorkedOn 34 = .ok (.iconst 1, 1) := by decide +kernel
theorem dX7_isWorkedOn_35 : decode cX7_isWorkedOn 35 = .ok (.goto 4, 3) := by decide +kernel
theorem dX7_isWorkedOn_38 : decode cX7_isWorkedOn 38 = .ok (.iconst 0, 1) := by decide +kernel
theorem dX7_isWorkedOn_39 : decode cX7_isWorkedOn 39 = .ok (.ireturn, 1) := by decide +kernel
theorem dX7_driftOf_0 : decode cX7_driftOf 0 = .ok (.aload_n 0, 1) := by decide +kernel
theorem dX7_driftOf_1 : decode cX7_driftOf 1 = .ok (.invokevirtual 135, 3) := by decide +kernel
theorem dX7_driftOf_4 : decode cX7_driftOf 4 = .ok (.getfield 139, 3) := by decide +kernel
theorem dX7_driftOf_7 : decode cX7_driftOf 7 = .ok (.iload_n 1, 1) := by decide +kernel
theorem dX7_driftOf_8 : decode cX7_driftOf 8 = .ok (.invokestatic 115, 3) := by decide +kernel
theorem dX7_driftOf_11 : decode cX7_driftOf 11 = .ok (.aload_n 0, 1) := by decide +kernel
theorem dX7_driftOf_12 : decode cX7_driftOf 12 = .ok (.getfield 12, 3) := by decide +kernel
theorem dX7_driftOf_15 : decode cX7_driftOf 15 = .ok (.getfield 238, 3) := by decide +kernel
theorem dX7_driftOf_18 : decode cX7_driftOf 18 = .ok (.iload_n 1, 1) := by decide +kernel
theorem dX7_driftOf_19 : decode cX7_driftOf 19 = .ok (.invokestatic 115, 3) := by decide +kernel
theorem dX7_driftOf_22 : decode cX7_driftOf 22 = .ok (.isub, 1) := by decide +kernel
theorem dX7_driftOf_23 : decode cX7_driftOf 23 = .ok (.ireturn, 1) := by decide +kernel
theorem dX7_sortingKey_0 : decode cX7_sortingKey 0 = .ok (.bipush 10, 2) := by decide +kernel
theorem dX7_sortingKey_2 : decode cX7_sortingKey 2 = .ok (.iload_n 0, 1) := by decide +kernel
theorem dX7_sortingKey_3 : decode cX7_sortingKey 3 = .ok (.imul, 1) := by decide +kernel
theorem dX7_sortingKey_4 : decode cX7_sortingKey 4 = .ok (.iload_n 1, 1) := by decide +kernel
theorem dX7_sortingKey_5 : decode cX7_sortingKey 5 = .ok (.isub, 1) := by decide +kernel
theorem dX7_sortingKey_6 : decode cX7_sortingKey 6 = .ok (.ireturn, 1) := by decide +kernel
theorem dX7_taskAtRank_0 : decode cX7_taskAtRank 0 = .ok (.iconst 0, 1) := by decide +kernel
theorem dX7_taskAtRank_1 : decode cX7_taskAtRank 1 = .ok (.istore_n 2, 1) := by decide +kernel
theorem dX7_taskAtRank_2 : decode cX7_taskAtRank 2 = .ok (.iload_n 2, 1) := by decide +kernel
theorem dX7_taskAtRank_3 : decode cX7_taskAtRank 3 = .ok (.aload_n 0, 1) := by decide +kernel
theorem dX7_taskAtRank_4 : decode cX7_taskAtRank 4 = .ok (.getfield 12, 3) := by decide +kernel
theorem dX7_taskAtRank_7 : decode cX7_taskAtRank 7 = .ok (.getfield 88, 3) := by decide +kernel
theorem dX7_taskAtRank_10 : decode cX7_taskAtRank 10 = .ok (.if_icmp .ge 20, 3) := by decide +kernel
theorem dX7_taskAtRank_13 : decode cX7_taskAtRank 13 = .ok (.aload_n 0, 1) := by decide +kernel
theorem dX7_taskAtRank_14 : decode cX7_taskAtRank 14 = .ok (.iload_n 2, 1) := by decide +kernel
theorem dX7_taskAtRank_15 : decode cX7_taskAtRank 15 = .ok (.invokevirtual 385, 3) := by decide +kernel
theorem dX7_taskAtRank_18 : decode cX7_taskAtRank 18 = .ok (.iload_n 1, 1) := by decide +kernel
theorem dX7_taskAtRank_19 : decode cX7_taskAtRank 19 = .ok (.if_icmp .ne 5, 3) := by decide +kernel
theorem dX7_taskAtRank_22 : decode cX7_taskAtRank 22 = .ok (.iload_n 2, 1) := by decide +kernel
theorem dX7_taskAtRank_23 : decode cX7_taskAtRank 23 = .ok (.ireturn, 1) := by decide +kernel
theorem dX7_taskAtRank_24 : decode cX7_taskAtRank 24 = .ok (.iinc 2 1, 3) := by decide +kernel
theorem dX7_taskAtRank_27 : decode cX7_taskAtRank 27 = .ok (.goto (-25), 3) := by decide +kernel
theorem dX7_taskAtRank_30 : decode cX7_taskAtRank 30 = .ok (.new 183, 3) := by decide +kernel
theorem dX7_taskAtRank_33 : decode cX7_taskAtRank 33 = .ok (.dup, 1) := by decide +kernel
theorem dX7_taskAtRank_34 : decode cX7_taskAtRank 34 = .ok (.ldc_w 388, 3) := by decide +kernel
theorem dX7_taskAtRank_37 : decode cX7_taskAtRank 37 = .ok (.invokespecial 187, 3) := by decide +kernel
theorem dX7_taskAtRank_40 : decode cX7_taskAtRank 40 = .ok (.athrow, 1) := by decide +kernel
theorem dX7_countBefore_0 : decode cX7_countBefore 0 = .ok (.aload_n 0, 1) := by decide +kernel
theorem dX7_countBefore_1 : decode cX7_countBefore 1 = .ok (.getfield 50, 3) := by decide +kernel
theorem dX7_countBefore_4 : decode cX7_countBefore 4 = .ok (.iload_n 1, 1) := by decide +kernel
theorem dX7_countBefore_5 : decode cX7_countBefore 5 = .ok (.invokestatic 115, 3) := by decide +kernel
theorem dX7_countBefore_8 : decode cX7_countBefore 8 = .ok (.istore_n 2, 1) := by decide +kernel
theorem dX7_countBefore_9 : decode cX7_countBefore 9 = .ok (.iconst 0, 1) := by decide +kernel
theorem dX7_countBefore_10 : decode cX7_countBefore 10 = .ok (.istore_n 3, 1) := by decide +kernel
theorem dX7_countBefore_11 : decode cX7_countBefore 11 = .ok (.iconst 0, 1) := by decide +kernel
theorem dX7_countBefore_12 : decode cX7_countBefore 12 = .ok (.istore 4, 2) := by decide +kernel
theorem dX7_countBefore_14 : decode cX7_countBefore 14 = .ok (.iload 4, 2) := by decide +kernel
theorem dX7_countBefore_16 : decode cX7_countBefore 16 = .ok (.aload_n 0, 1) := by decide +kernel
theorem dX7_countBefore_17 : decode cX7_countBefore 17 = .ok (.getfield 12, 3) := by decide +kernel
theorem dX7_countBefore_20 : decode cX7_countBefore 20 = .ok (.getfield 88, 3) := by decide +kernel
theorem dX7_countBefore_23 : decode cX7_countBefore 23 = .ok (.if_icmp .ge 41, 3) := by decide +kernel
theorem dX7_countBefore_26 : decode cX7_countBefore 26 = .ok (.aload_n 0, 1) := by decide +kernel
theorem dX7_countBefore_27 : decode cX7_countBefore 27 = .ok (.getfield 50, 3) := by decide +kernel
theorem dX7_countBefore_30 : decode cX7_countBefore 30 = .ok (.iload 4, 2) := by decide +kernel
theorem dX7_countBefore_32 : decode cX7_countBefore 32 = .ok (.invokestatic 115, 3) := by decide +kernel
theorem dX7_countBefore_35 : decode cX7_countBefore 35 = .ok (.istore 5, 2) := by decide +kernel
theorem dX7_countBefore_37 : decode cX7_countBefore 37 = .ok (.iload 5, 2) := by decide +kernel
theorem dX7_countBefore_39 : decode cX7_countBefore 39 = .ok (.iload_n 2, 1) := by decide +kernel
theorem dX7_countBefore_40 : decode cX7_countBefore 40 = .ok (.if_icmp .lt 15, 3) := by decide +kernel
theorem dX7_countBefore_43 : decode cX7_countBefore 43 = .ok (.iload 5, 2) := by decide +kernel
theorem dX7_countBefore_45 : decode cX7_countBefore 45 = .ok (.iload_n 2, 1) := by decide +kernel
theorem dX7_countBefore_46 : decode cX7_countBefore 46 = .ok (.if_icmp .ne 12, 3) := by decide +kernel
theorem dX7_countBefore_49 : decode cX7_countBefore 49 = .ok (.iload 4, 2) := by decide +kernel
theorem dX7_countBefore_51 : decode cX7_countBefore 51 = .ok (.iload_n 1, 1) := by decide +kernel
theorem dX7_countBefore_52 : decode cX7_countBefore 52 = .ok (.if_icmp .ge 6, 3) := by decide +kernel
theorem dX7_countBefore_55 : decode cX7_countBefore 55 = .ok (.iinc 3 1, 3) := by decide +kernel
theorem dX7_countBefore_58 : decode cX7_countBefore 58 = .ok (.iinc 4 1, 3) := by decide +kernel
theorem dX7_countBefore_61 : decode cX7_countBefore 61 = .ok (.goto (-47), 3) := by decide +kernel
theorem dX7_countBefore_64 : decode cX7_countBefore 64 = .ok (.iload_n 3, 1) := by decide +kernel
theorem dX7_countBefore_65 : decode cX7_countBefore 65 = .ok (.ireturn, 1) := by decide +kernel
theorem dX7_startsAgree_0 : decode cX7_startsAgree 0 = .ok (.aload_n 0, 1) := by decide +kernel
theorem dX7_startsAgree_1 : decode cX7_startsAgree 1 = .ok (.invokevirtual 135, 3) := by decide +kernel
theorem dX7_startsAgree_4 : decode cX7_startsAgree 4 = .ok (.astore_n 1, 1) := by decide +kernel
theorem dX7_startsAgree_5 : decode cX7_startsAgree 5 = .ok (.iconst 0, 1) := by decide +kernel
theorem dX7_startsAgree_6 : decode cX7_startsAgree 6 = .ok (.istore_n 2, 1) := by decide +kernel
theorem dX7_startsAgree_7 : decode cX7_startsAgree 7 = .ok (.iload_n 2, 1) := by decide +kernel
theorem dX7_startsAgree_8 : decode cX7_startsAgree 8 = .ok (.aload_n 0, 1) := by decide +kernel
theorem dX7_startsAgree_9 : decode cX7_startsAgree 9 = .ok (.getfield 12, 3) := by decide +kernel
theorem dX7_startsAgree_12 : decode cX7_startsAgree 12 = .ok (.getfield 88, 3) := by decide +kernel
theorem dX7_startsAgree_15 : decode cX7_startsAgree 15 = .ok (.if_icmp .ge 44, 3) := by decide +kernel
theorem dX7_startsAgree_18 : decode cX7_startsAgree 18 = .ok (.aload_n 1, 1) := by decide +kernel
theorem dX7_startsAgree_19 : decode cX7_startsAgree 19 = .ok (.getfield 193, 3) := by decide +kernel
theorem dX7_startsAgree_22 : decode cX7_startsAgree 22 = .ok (.iload_n 2, 1) := by decide +kernel
theorem dX7_startsAgree_23 : decode cX7_startsAgree 23 = .ok (.invokestatic 115, 3) := by decide +kernel
theorem dX7_startsAgree_26 : decode cX7_startsAgree 26 = .ok (.istore_n 3, 1) := by decide +kernel
theorem dX7_startsAgree_27 : decode cX7_startsAgree 27 = .ok (.iload_n 3, 1) := by decide +kernel
theorem dX7_startsAgree_28 : decode cX7_startsAgree 28 = .ok (.aload_n 1, 1) := by decide +kernel
theorem dX7_startsAgree_29 : decode cX7_startsAgree 29 = .ok (.getfield 196, 3) := by decide +kernel
theorem dX7_startsAgree_32 : decode cX7_startsAgree 32 = .ok (.iload_n 2, 1) := by decide +kernel
theorem dX7_startsAgree_33 : decode cX7_startsAgree 33 = .ok (.invokestatic 115, 3) := by decide +kernel
theorem dX7_startsAgree_36 : decode cX7_startsAgree 36 = .ok (.if_icmp .ne 15, 3) := by decide +kernel
theorem dX7_startsAgree_39 : decode cX7_startsAgree 39 = .ok (.aload_n 1, 1) := by decide +kernel
theorem dX7_startsAgree_40 : decode cX7_startsAgree 40 = .ok (.getfield 139, 3) := by decide +kernel
theorem dX7_startsAgree_43 : decode cX7_startsAgree 43 = .ok (.iload_n 2, 1) := by decide +kernel
theorem dX7_startsAgree_44 : decode cX7_startsAgree 44 = .ok (.invokestatic 115, 3) := by decide +kernel
theorem dX7_startsAgree_47 : decode cX7_startsAgree 47 = .ok (.iload_n 3, 1) := by decide +kernel
theorem dX7_startsAgree_48 : decode cX7_startsAgree 48 = .ok (.if_icmp .ge 5, 3) := by decide +kernel
theorem dX7_startsAgree_51 : decode cX7_startsAgree 51 = .ok (.iconst 0, 1) := by decide +kernel
theorem dX7_startsAgree_52 : decode cX7_startsAgree 52 = .ok (.ireturn, 1) := by decide +kernel
theorem dX7_startsAgree_53 : decode cX7_startsAgree 53 = .ok (.iinc 2 1, 3) := by decide +kernel
theorem dX7_startsAgree_56 : decode cX7_startsAgree 56 = .ok (.goto (-49), 3) := by decide +kernel
theorem dX7_startsAgree_59 : decode cX7_startsAgree 59 = .ok (.iconst 1, 1) := by decide +kernel
theorem dX7_startsAgree_60 : decode cX7_startsAgree 60 = .ok (.ireturn, 1) := by decide +kernel
theorem dX7_dependenciesAgree_0 : decode cX7_dependenciesAgree 0 = .ok (.aload_n 0, 1) := by decide +kernel
theorem dX7_dependenciesAgree_1 : decode cX7_dependenciesAgree 1 = .ok (.invokevirtual 135, 3) := by decide +kernel
theorem dX7_dependenciesAgree_4 : decode cX7_dependenciesAgree 4 = .ok (.astore_n 1, 1) := by decide +kernel
theorem dX7_dependenciesAgree_5 : decode cX7_dependenciesAgree 5 = .ok (.iconst 0, 1) := by decide +kernel
theorem dX7_dependenciesAgree_6 : decode cX7_dependenciesAgree 6 = .ok (.istore_n 2, 1) := by decide +kernel
theorem dX7_dependenciesAgree_7 : decode cX7_dependenciesAgree 7 = .ok (.iload_n 2, 1) := by decide +kernel
theorem dX7_dependenciesAgree_8 : decode cX7_dependenciesAgree 8 = .ok (.aload_n 0, 1) := by decide +kernel
theorem dX7_dependenciesAgree_9 : decode cX7_dependenciesAgree 9 = .ok (.getfield 12, 3) := by decide +kernel
theorem dX7_dependenciesAgree_12 : decode cX7_dependenciesAgree 12 = .ok (.getfield 88, 3) := by decide +kernel
theorem dX7_dependenciesAgree_15 : decode cX7_dependenciesAgree 15 = .ok (.if_icmp .ge 60, 3) := by decide +kernel
theorem dX7_dependenciesAgree_18 : decode cX7_dependenciesAgree 18 = .ok (.aload_n 1, 1) := by decide +kernel
theorem dX7_dependenciesAgree_19 : decode cX7_dependenciesAgree 19 = .ok (.getfield 164, 3) := by decide +kernel
theorem dX7_dependenciesAgree_22 : decode cX7_dependenciesAgree 22 = .ok (.iload_n 2, 1) := by decide +kernel
theorem dX7_dependenciesAgree_23 : decode cX7_dependenciesAgree 23 = .ok (.invokestatic 115, 3) := by decide +kernel
theorem dX7_dependenciesAgree_26 : decode cX7_dependenciesAgree 26 = .ok (.istore_n 3, 1) := by decide +kernel
theorem dX7_dependenciesAgree_27 : decode cX7_dependenciesAgree 27 = .ok (.iconst 0, 1) := by decide +kernel
theorem dX7_dependenciesAgree_28 : decode cX7_dependenciesAgree 28 = .ok (.istore 4, 2) := by decide +kernel
theorem dX7_dependenciesAgree_30 : decode cX7_dependenciesAgree 30 = .ok (.iload 4, 2) := by decide +kernel
theorem dX7_dependenciesAgree_32 : decode cX7_dependenciesAgree 32 = .ok (.aload_n 0, 1) := by decide +kernel
theorem dX7_dependenciesAgree_33 : decode cX7_dependenciesAgree 33 = .ok (.getfield 12, 3) := by decide +kernel
theorem dX7_dependenciesAgree_36 : decode cX7_dependenciesAgree 36 = .ok (.getfield 88, 3) := by decide +kernel
theorem dX7_dependenciesAgree_39 : decode cX7_dependenciesAgree 39 = .ok (.if_icmp .ge 30, 3) := by decide +kernel
theorem dX7_dependenciesAgree_42 : decode cX7_dependenciesAgree 42 = .ok (.iload_n 3, 1) := by decide +kernel
theorem dX7_dependenciesAgree_43 : decode cX7_dependenciesAgree 43 = .ok (.iload 4, 2) := by decide +kernel
theorem dX7_dependenciesAgree_45 : decode cX7_dependenciesAgree 45 = .ok (.invokestatic 167, 3) := by decide +kernel
theorem dX7_dependenciesAgree_48 : decode cX7_dependenciesAgree 48 = .ok (.aload_n 0, 1) := by decide +kernel
theorem dX7_dependenciesAgree_49 : decode cX7_dependenciesAgree 49 = .ok (.getfield 12, 3) := by decide +kernel
theorem dX7_dependenciesAgree_52 : decode cX7_dependenciesAgree 52 = .ok (.iload_n 2, 1) := by decide +kernel
theorem dX7_dependenciesAgree_53 : decode cX7_dependenciesAgree 53 = .ok (.iload 4, 2) := by decide +kernel
theorem dX7_dependenciesAgree_55 : decode cX7_dependenciesAgree 55 = .ok (.invokevirtual 161, 3) := by decide +kernel
theorem dX7_dependenciesAgree_58 : decode cX7_dependenciesAgree 58 = .ok (.if_icmp .eq 5, 3) := by decide +kernel
theorem dX7_dependenciesAgree_61 : decode cX7_dependenciesAgree 61 = .ok (.iconst 0, 1) := by decide +kernel
theorem dX7_dependenciesAgree_62 : decode cX7_dependenciesAgree 62 = .ok (.ireturn, 1) := by decide +kernel
theorem dX7_dependenciesAgree_63 : decode cX7_dependenciesAgree 63 = .ok (.iinc 4 1, 3) := by decide +kernel
theorem dX7_dependenciesAgree_66 : decode cX7_dependenciesAgree 66 = .ok (.goto (-36), 3) := by decide +kernel
theorem dX7_dependenciesAgree_69 : decode cX7_dependenciesAgree 69 = .ok (.iinc 2 1, 3) := by decide +kernel
theorem dX7_dependenciesAgree_72 : decode cX7_dependenciesAgree 72 = .ok (.goto (-65), 3) := by decide +kernel
theorem dX7_dependenciesAgree_75 : decode cX7_dependenciesAgree 75 = .ok (.iconst 1, 1) := by decide +kernel
theorem dX7_dependenciesAgree_76 : decode cX7_dependenciesAgree 76 = .ok (.ireturn, 1) := by decide +kernel
theorem dX7_workloadsAgree_0 : decode cX7_workloadsAgree 0 = .ok (.aload_n 0, 1) := by decide +kernel
theorem dX7_workloadsAgree_1 : decode cX7_workloadsAgree 1 = .ok (.invokevirtual 135, 3) := by decide +kernel
theorem dX7_workloadsAgree_4 : decode cX7_workloadsAgree 4 = .ok (.astore_n 1, 1) := by decide +kernel
theorem dX7_workloadsAgree_5 : decode cX7_workloadsAgree 5 = .ok (.iconst 0, 1) := by decide +kernel
theorem dX7_workloadsAgree_6 : decode cX7_workloadsAgree 6 = .ok (.istore_n 2, 1) := by decide +kernel
theorem dX7_workloadsAgree_7 : decode cX7_workloadsAgree 7 = .ok (.iload_n 2, 1) := by decide +kernel
theorem dX7_workloadsAgree_8 : decode cX7_workloadsAgree 8 = .ok (.iconst 3, 1) := by decide +kernel
theorem dX7_workloadsAgree_9 : decode cX7_workloadsAgree 9 = .ok (.if_icmp .ge 27, 3) := by decide +kernel
theorem dX7_workloadsAgree_12 : decode cX7_workloadsAgree 12 = .ok (.aload_n 0, 1) := by decide +kernel
theorem dX7_workloadsAgree_13 : decode cX7_workloadsAgree 13 = .ok (.getfield 12, 3) := by decide +kernel
theorem dX7_workloadsAgree_16 : decode cX7_workloadsAgree 16 = .ok (.iload_n 2, 1) := by decide +kernel
theorem dX7_workloadsAgree_17 : decode cX7_workloadsAgree 17 = .ok (.invokevirtual 225, 3) := by decide +kernel
theorem dX7_workloadsAgree_20 : decode cX7_workloadsAgree 20 = .ok (.aload_n 1, 1) := by decide +kernel
theorem dX7_workloadsAgree_21 : decode cX7_workloadsAgree 21 = .ok (.iload_n 2, 1) := by decide +kernel
theorem dX7_workloadsAgree_22 : decode cX7_workloadsAgree 22 = .ok (.invokevirtual 228, 3) := by decide +kernel
theorem dX7_workloadsAgree_25 : decode cX7_workloadsAgree 25 = .ok (.if_icmp .eq 5, 3) := by decide +kernel
theorem dX7_workloadsAgree_28 : decode cX7_workloadsAgree 28 = .ok (.iconst 0, 1) := by decide +kernel
theorem dX7_workloadsAgree_29 : decode cX7_workloadsAgree 29 = .ok (.ireturn, 1) := by decide +kernel
theorem dX7_workloadsAgree_30 : decode cX7_workloadsAgree 30 = .ok (.iinc 2 1, 3) := by decide +kernel
theorem dX7_workloadsAgree_33 : decode cX7_workloadsAgree 33 = .ok (.goto (-26), 3) := by decide +kernel
theorem dX7_workloadsAgree_36 : decode cX7_workloadsAgree 36 = .ok (.iconst 1, 1) := by decide +kernel
theorem dX7_workloadsAgree_37 : decode cX7_workloadsAgree 37 = .ok (.ireturn, 1) := by decide +kernel
theorem dX7_requireTask_0 : decode cX7_requireTask 0 = .ok (.aload_n 0, 1) := by decide +kernel
theorem dX7_requireTask_1 : decode cX7_requireTask 1 = .ok (.getfield 12, 3) := by decide +kernel
theorem dX7_requireTask_4 : decode cX7_requireTask 4 = .ok (.iload_n 1, 1) := by decide +kernel
theorem dX7_requireTask_5 : decode cX7_requireTask 5 = .ok (.invokevirtual 80, 3) := by decide +kernel
theorem dX7_requireTask_8 : decode cX7_requireTask 8 = .ok (.invokestatic 69, 3) := by decide +kernel
theorem dX7_requireTask_11 : decode cX7_requireTask 11 = .ok (.return_, 1) := by decide +kernel
theorem dX7_requireResource_0 : decode cX7_requireResource 0 = .ok (.iload_n 0, 1) := by decide +kernel
theorem dX7_requireResource_1 : decode cX7_requireResource 1 = .ok (.iconst 0, 1) := by decide +kernel
theorem dX7_requireResource_2 : decode cX7_requireResource 2 = .ok (.iconst 2, 1) := by decide +kernel
theorem dX7_requireResource_3 : decode cX7_requireResource 3 = .ok (.invokestatic 179, 3) := by decide +kernel
theorem dX7_requireResource_6 : decode cX7_requireResource 6 = .ok (.ifCond .ne 14, 3) := by decide +kernel
theorem dX7_requireResource_9 : decode cX7_requireResource 9 = .ok (.new 297, 3) := by decide +kernel
theorem dX7_requireResource_12 : decode cX7_requireResource 12 = .ok (.dup, 1) := by decide +kernel
theorem dX7_requireResource_13 : decode cX7_requireResource 13 = .ok (.ldc_w 390, 3) := by decide +kernel
theorem dX7_requireResource_16 : decode cX7_requireResource 16 = .ok (.invokespecial 301, 3) := by decide +kernel
theorem dX7_requireResource_19 : decode cX7_requireResource 19 = .ok (.athrow, 1) := by decide +kernel
theorem dX7_requireResource_20 : decode cX7_requireResource 20 = .ok (.return_, 1) := by decide +kernel
theorem dX7_requireDay_0 : decode cX7_requireDay 0 = .ok (.iload_n 0, 1) := by decide +kernel
theorem dX7_requireDay_1 : decode cX7_requireDay 1 = .ok (.ifCond .ge 14, 3) := by decide +kernel
theorem dX7_requireDay_4 : decode cX7_requireDay 4 = .ok (.new 297, 3) := by decide +kernel
theorem dX7_requireDay_7 : decode cX7_requireDay 7 = .ok (.dup, 1) := by decide +kernel
theorem dX7_requireDay_8 : decode cX7_requireDay 8 = .ok (.ldc_w 392, 3) := by decide +kernel
theorem dX7_requireDay_11 : decode cX7_requireDay 11 = .ok (.invokespecial 301, 3) := by decide +kernel
theorem dX7_requireDay_14 : decode cX7_requireDay 14 = .ok (.athrow, 1) := by decide +kernel
theorem dX7_requireDay_15 : decode cX7_requireDay 15 = .ok (.return_, 1) := by decide +kernel
theorem dX7_requireBaselineStart_0 : decode cX7_requireBaselineStart 0 = .ok (.aload_n 0, 1) := by decide +kernel
theorem dX7_requireBaselineStart_1 : decode cX7_requireBaselineStart 1 = .ok (.getfield 12, 3) := by decide +kernel
theorem dX7_requireBaselineStart_4 : decode cX7_requireBaselineStart 4 = .ok (.iload_n 1, 1) := by decide +kernel
theorem dX7_requireBaselineStart_5 : decode cX7_requireBaselineStart 5 = .ok (.invokevirtual 246, 3) := by decide +kernel
theorem dX7_requireBaselineStart_8 : decode cX7_requireBaselineStart 8 = .ok (.ifCond .ne 14, 3) := by decide +kernel
theorem dX7_requireBaselineStart_11 : decode cX7_requireBaselineStart 11 = .ok (.new 183, 3) := by decide +kernel
theorem dX7_requireBaselineStart_14 : decode cX7_requireBaselineStart 14 = .ok (.dup, 1) := by decide +kernel
theorem dX7_requireBaselineStart_15 : decode cX7_requireBaselineStart 15 = .ok (.ldc_w 394, 3) := by decide +kernel
theorem dX7_requireBaselineStart_18 : decode cX7_requireBaselineStart 18 = .ok (.invokespecial 187, 3) := by decide +kernel
theorem dX7_requireBaselineStart_21 : decode cX7_requireBaselineStart 21 = .ok (.athrow, 1) := by decide +kernel
theorem dX7_requireBaselineStart_22 : decode cX7_requireBaselineStart 22 = .ok (.return_, 1) := by decide +kernel
theorem dX7_requireFailure_0 : decode cX7_requireFailure 0 = .ok (.aload_n 0, 1) := by decide +kernel
theorem dX7_requireFailure_1 : decode cX7_requireFailure 1 = .ok (.getfield 58, 3) := by decide +kernel
theorem dX7_requireFailure_4 : decode cX7_requireFailure 4 = .ok (.iconst (-1), 1) := by decide +kernel
theorem dX7_requireFailure_5 : decode cX7_requireFailure 5 = .ok (.if_icmp .ne 14, 3) := by decide +kernel
theorem dX7_requireFailure_8 : decode cX7_requireFailure 8 = .ok (.new 183, 3) := by decide +kernel
theorem dX7_requireFailure_11 : decode cX7_requireFailure 11 = .ok (.dup, 1) := by decide +kernel
theorem dX7_requireFailure_12 : decode cX7_requireFailure 12 = .ok (.ldc_w 396, 3) := by decide +kernel
theorem dX7_requireFailure_15 : decode cX7_requireFailure 15 = .ok (.invokespecial 187, 3) := by decide +kernel
theorem dX7_requireFailure_18 : decode cX7_requireFailure 18 = .ok (.athrow, 1) := by decide +kernel
theorem dX7_requireFailure_19 : decode cX7_requireFailure 19 = .ok (.return_, 1) := by decide +kernel
theorem dX7_refuse_0 : decode cX7_refuse 0 = .ok (.iload_n 0, 1) := by decide +kernel
theorem dX7_refuse_1 : decode cX7_refuse 1 = .ok (.bipush 105, 2) := by decide +kernel
theorem dX7_refuse_3 : decode cX7_refuse 3 = .ok (.if_icmp .ne 14, 3) := by decide +kernel
theorem dX7_refuse_6 : decode cX7_refuse 6 = .ok (.new 284, 3) := by decide +kernel
theorem dX7_refuse_9 : decode cX7_refuse 9 = .ok (.dup, 1) := by decide +kernel
theorem dX7_refuse_10 : decode cX7_refuse 10 = .ok (.ldc_w 398, 3) := by decide +kernel
theorem dX7_refuse_13 : decode cX7_refuse 13 = .ok (.invokespecial 288, 3) := by decide +kernel
theorem dX7_refuse_16 : decode cX7_refuse 16 = .ok (.athrow, 1) := by decide +kernel
theorem dX7_refuse_17 : decode cX7_refuse 17 = .ok (.iload_n 0, 1) := by decide +kernel
theorem dX7_refuse_18 : decode cX7_refuse 18 = .ok (.bipush 97, 2) := by decide +kernel
theorem dX7_refuse_20 : decode cX7_refuse 20 = .ok (.if_icmp .ne 14, 3) := by decide +kernel
theorem dX7_refuse_23 : decode cX7_refuse 23 = .ok (.new 297, 3) := by decide +kernel
theorem dX7_refuse_26 : decode cX7_refuse 26 = .ok (.dup, 1) := by decide +kernel
theorem dX7_refuse_27 : decode cX7_refuse 27 = .ok (.ldc_w 400, 3) := by decide +kernel
theorem dX7_refuse_30 : decode cX7_refuse 30 = .ok (.invokespecial 301, 3) := by decide +kernel
theorem dX7_refuse_33 : decode cX7_refuse 33 = .ok (.athrow, 1) := by decide +kernel
theorem dX7_refuse_34 : decode cX7_refuse 34 = .ok (.iload_n 0, 1) := by decide +kernel
theorem dX7_refuse_35 : decode cX7_refuse 35 = .ok (.bipush 115, 2) := by decide +kernel
theorem dX7_refuse_37 : decode cX7_refuse 37 = .ok (.if_icmp .ne 14, 3) := by decide +kernel
theorem dX7_refuse_40 : decode cX7_refuse 40 = .ok (.new 303, 3) := by decide +kernel
theorem dX7_refuse_43 : decode cX7_refuse 43 = .ok (.dup, 1) := by decide +kernel
theorem dX7_refuse_44 : decode cX7_refuse 44 = .ok (.ldc_w 402, 3) := by decide +kernel
theorem dX7_refuse_47 : decode cX7_refuse 47 = .ok (.invokespecial 307, 3) := by decide +kernel
theorem dX7_refuse_50 : decode cX7_refuse 50 = .ok (.athrow, 1) := by decide +kernel
theorem dX7_refuse_51 : decode cX7_refuse 51 = .ok (.iload_n 0, 1) := by decide +kernel
theorem dX7_refuse_52 : decode cX7_refuse 52 = .ok (.bipush 117, 2) := by decide +kernel
theorem dX7_refuse_54 : decode cX7_refuse 54 = .ok (.if_icmp .ne 14, 3) := by decide +kernel
theorem dX7_refuse_57 : decode cX7_refuse 57 = .ok (.new 404, 3) := by decide +kernel
theorem dX7_refuse_60 : decode cX7_refuse 60 = .ok (.dup, 1) := by decide +kernel
theorem dX7_refuse_61 : decode cX7_refuse 61 = .ok (.ldc_w 406, 3) := by decide +kernel
theorem dX7_refuse_64 : decode cX7_refuse 64 = .ok (.invokespecial 408, 3) := by decide +kernel
theorem dX7_refuse_67 : decode cX7_refuse 67 = .ok (.athrow, 1) := by decide +kernel
theorem dX7_refuse_68 : decode cX7_refuse 68 = .ok (.return_, 1) := by decide +kernel
theorem dX7_isWithin_0 : decode cX7_isWithin 0 = .ok (.iload_n 0, 1) := by decide +kernel
theorem dX7_isWithin_1 : decode cX7_isWithin 1 = .ok (.iload_n 1, 1) := by decide +kernel
theorem dX7_isWithin_2 : decode cX7_isWithin 2 = .ok (.if_icmp .lt 12, 3) := by decide +kernel
theorem dX7_isWithin_5 : decode cX7_isWithin 5 = .ok (.iload_n 0, 1) := by decide +kernel
theorem dX7_isWithin_6 : decode cX7_isWithin 6 = .ok (.iload_n 2, 1) := by decide +kernel
theorem dX7_isWithin_7 : decode cX7_isWithin 7 = .ok (.if_icmp .gt 7, 3) := by decide +kernel
theorem dX7_isWithin_10 : decode cX7_isWithin 10 = .ok (.iconst 1, 1) := by decide +kernel
theorem dX7_isWithin_11 : decode cX7_isWithin 11 = .ok (.goto 4, 3) := by decide +kernel
theorem dX7_isWithin_14 : decode cX7_isWithin 14 = .ok (.iconst 0, 1) := by decide +kernel
theorem dX7_isWithin_15 : decode cX7_isWithin 15 = .ok (.ireturn, 1) := by decide +kernel
theorem dX7_hasBit_0 : decode cX7_hasBit 0 = .ok (.iload_n 0, 1) := by decide +kernel
theorem dX7_hasBit_1 : decode cX7_hasBit 1 = .ok (.iload_n 1, 1) := by decide +kernel
theorem dX7_hasBit_2 : decode cX7_hasBit 2 = .ok (.ishr, 1) := by decide +kernel
theorem dX7_hasBit_3 : decode cX7_hasBit 3 = .ok (.iconst 1, 1) := by decide +kernel
theorem dX7_hasBit_4 : decode cX7_hasBit 4 = .ok (.iand, 1) := by decide +kernel
theorem dX7_hasBit_5 : decode cX7_hasBit 5 = .ok (.iconst 1, 1) := by decide +kernel
theorem dX7_hasBit_6 : decode cX7_hasBit 6 = .ok (.if_icmp .ne 7, 3) := by decide +kernel
theorem dX7_hasBit_9 : decode cX7_hasBit 9 = .ok (.iconst 1, 1) := by decide +kernel
theorem dX7_hasBit_10 : decode cX7_hasBit 10 = .ok (.goto 4, 3) := by decide +kernel
theorem dX7_hasBit_13 : decode cX7_hasBit 13 = .ok (.iconst 0, 1) := by decide +kernel
theorem dX7_hasBit_14 : decode cX7_hasBit 14 = .ok (.ireturn, 1) := by decide +kernel
theorem dX7_at_0 : decode cX7_at 0 = .ok (.iload_n 1, 1) := by decide +kernel
theorem dX7_at_1 : decode cX7_at 1 = .ok (.ifCond .lt 15, 3) := by decide +kernel
theorem dX7_at_4 : decode cX7_at 4 = .ok (.iload_n 1, 1) := by decide +kernel
theorem dX7_at_5 : decode cX7_at 5 = .ok (.aload_n 0, 1) := by decide +kernel
theorem dX7_at_6 : decode cX7_at 6 = .ok (.arraylength, 1) := by decide +kernel
theorem dX7_at_7 : decode cX7_at 7 = .ok (.if_icmp .ge 9, 3) := by decide +kernel
theorem dX7_at_10 : decode cX7_at 10 = .ok (.aload_n 0, 1) := by decide +kernel
theorem dX7_at_11 : decode cX7_at 11 = .ok (.iload_n 1, 1) := by decide +kernel
theorem dX7_at_12 : decode cX7_at 12 = .ok (.iaload, 1) := by decide +kernel
theorem dX7_at_13 : decode cX7_at 13 = .ok (.goto 4, 3) := by decide +kernel
theorem dX7_at_16 : decode cX7_at 16 = .ok (.iconst 0, 1) := by decide +kernel
theorem dX7_at_17 : decode cX7_at 17 = .ok (.ireturn, 1) := by decide +kernel
theorem dX7_put_0 : decode cX7_put 0 = .ok (.iload_n 1, 1) := by decide +kernel
theorem dX7_put_1 : decode cX7_put 1 = .ok (.ifCond .lt 13, 3) := by decide +kernel
theorem dX7_put_4 : decode cX7_put 4 = .ok (.iload_n 1, 1) := by decide +kernel
theorem dX7_put_5 : decode cX7_put 5 = .ok (.aload_n 0, 1) := by decide +kernel
theorem dX7_put_6 : decode cX7_put 6 = .ok (.arraylength, 1) := by decide +kernel
theorem dX7_put_7 : decode cX7_put 7 = .ok (.if_icmp .ge 7, 3) := by decide +kernel
theorem dX7_put_10 : decode cX7_put 10 = .ok (.aload_n 0, 1) := by decide +kernel
theorem dX7_put_11 : decode cX7_put 11 = .ok (.iload_n 1, 1) := by decide +kernel
theorem dX7_put_12 : decode cX7_put 12 = .ok (.iload_n 2, 1) := by decide +kernel
theorem dX7_put_13 : decode cX7_put 13 = .ok (.iastore, 1) := by decide +kernel
theorem dX7_put_14 : decode cX7_put 14 = .ok (.return_, 1) := by decide +kernel
theorem dX7_charAt_0 : decode cX7_charAt 0 = .ok (.iload_n 1, 1) := by decide +kernel
theorem dX7_charAt_1 : decode cX7_charAt 1 = .ok (.ifCond .lt 15, 3) := by decide +kernel
theorem dX7_charAt_4 : decode cX7_charAt 4 = .ok (.iload_n 1, 1) := by decide +kernel
theorem dX7_charAt_5 : decode cX7_charAt 5 = .ok (.aload_n 0, 1) := by decide +kernel
theorem dX7_charAt_6 : decode cX7_charAt 6 = .ok (.arraylength, 1) := by decide +kernel
theorem dX7_charAt_7 : decode cX7_charAt 7 = .ok (.if_icmp .ge 9, 3) := by decide +kernel
theorem dX7_charAt_10 : decode cX7_charAt 10 = .ok (.aload_n 0, 1) := by decide +kernel
theorem dX7_charAt_11 : decode cX7_charAt 11 = .ok (.iload_n 1, 1) := by decide +kernel
theorem dX7_charAt_12 : decode cX7_charAt 12 = .ok (.caload, 1) := by decide +kernel
theorem dX7_charAt_13 : decode cX7_charAt 13 = .ok (.goto 5, 3) := by decide +kernel
theorem dX7_charAt_16 : decode cX7_charAt 16 = .ok (.bipush 32, 2) := by decide +kernel
theorem dX7_charAt_18 : decode cX7_charAt 18 = .ok (.ireturn, 1) := by decide +kernel
theorem dX7_copyRow_0 : decode cX7_copyRow 0 = .ok (.iconst 0, 1) := by decide +kernel
theorem dX7_copyRow_1 : decode cX7_copyRow 1 = .ok (.istore_n 2, 1) := by decide +kernel
theorem dX7_copyRow_2 : decode cX7_copyRow 2 = .ok (.iload_n 2, 1) := by decide +kernel
theorem dX7_copyRow_3 : decode cX7_copyRow 3 = .ok (.aload_n 0, 1) := by decide +kernel
theorem dX7_copyRow_4 : decode cX7_copyRow 4 = .ok (.arraylength, 1) := by decide +kernel
theorem dX7_copyRow_5 : decode cX7_copyRow 5 = .ok (.if_icmp .ge 21, 3) := by decide +kernel
theorem dX7_copyRow_8 : decode cX7_copyRow 8 = .ok (.iload_n 2, 1) := by decide +kernel
theorem dX7_copyRow_9 : decode cX7_copyRow 9 = .ok (.aload_n 1, 1) := by decide +kernel
theorem dX7_copyRow_10 : decode cX7_copyRow 10 = .ok (.arraylength, 1) := by decide +kernel
theorem dX7_copyRow_11 : decode cX7_copyRow 11 = .ok (.if_icmp .ge 15, 3) := by decide +kernel
theorem dX7_copyRow_14 : decode cX7_copyRow 14 = .ok (.aload_n 1, 1) := by decide +kernel
theorem dX7_copyRow_15 : decode cX7_copyRow 15 = .ok (.iload_n 2, 1) := by decide +kernel
theorem dX7_copyRow_16 : decode cX7_copyRow 16 = .ok (.aload_n 0, 1) := by decide +kernel
theorem dX7_copyRow_17 : decode cX7_copyRow 17 = .ok (.iload_n 2, 1) := by decide +kernel
theorem dX7_copyRow_18 : decode cX7_copyRow 18 = .ok (.iaload, 1) := by decide +kernel
theorem dX7_copyRow_19 : decode cX7_copyRow 19 = .ok (.iastore, 1) := by decide +kernel
theorem dX7_copyRow_20 : decode cX7_copyRow 20 = .ok (.iinc 2 1, 3) := by decide +kernel
theorem dX7_copyRow_23 : decode cX7_copyRow 23 = .ok (.goto (-21), 3) := by decide +kernel
theorem dX7_copyRow_26 : decode cX7_copyRow 26 = .ok (.return_, 1) := by decide +kernel
theorem dX7_fillRow_0 : decode cX7_fillRow 0 = .ok (.iconst 0, 1) := by decide +kernel
theorem dX7_fillRow_1 : decode cX7_fillRow 1 = .ok (.istore_n 2, 1) := by decide +kernel
theorem dX7_fillRow_2 : decode cX7_fillRow 2 = .ok (.iload_n 2, 1) := by decide +kernel
theorem dX7_fillRow_3 : decode cX7_fillRow 3 = .ok (.aload_n 0, 1) := by decide +kernel
theorem dX7_fillRow_4 : decode cX7_fillRow 4 = .ok (.arraylength, 1) := by decide +kernel
theorem dX7_fillRow_5 : decode cX7_fillRow 5 = .ok (.if_icmp .ge 13, 3) := by decide +kernel
theorem dX7_fillRow_8 : decode cX7_fillRow 8 = .ok (.aload_n 0, 1) := by decide +kernel
theorem dX7_fillRow_9 : decode cX7_fillRow 9 = .ok (.iload_n 2, 1) := by decide +kernel
theorem dX7_fillRow_10 : decode cX7_fillRow 10 = .ok (.iload_n 1, 1) := by decide +kernel
theorem dX7_fillRow_11 : decode cX7_fillRow 11 = .ok (.iastore, 1) := by decide +kernel
theorem dX7_fillRow_12 : decode cX7_fillRow 12 = .ok (.iinc 2 1, 3) := by decide +kernel
theorem dX7_fillRow_15 : decode cX7_fillRow 15 = .ok (.goto (-13), 3) := by decide +kernel
theorem dX7_fillRow_18 : decode cX7_fillRow 18 = .ok (.return_, 1) := by decide +kernel
theorem dX7_closeGap_0 : decode cX7_closeGap 0 = .ok (.iload_n 1, 1) := by decide +kernel
theorem dX7_closeGap_1 : decode cX7_closeGap 1 = .ok (.iconst 0, 1) := by decide +kernel
theorem dX7_closeGap_2 : decode cX7_closeGap 2 = .ok (.invokestatic 220, 3) := by decide +kernel
theorem dX7_closeGap_5 : decode cX7_closeGap 5 = .ok (.istore_n 2, 1) := by decide +kernel
theorem dX7_closeGap_6 : decode cX7_closeGap 6 = .ok (.iload_n 2, 1) := by decide +kernel
theorem dX7_closeGap_7 : decode cX7_closeGap 7 = .ok (.iconst 1, 1) := by decide +kernel
theorem dX7_closeGap_8 : decode cX7_closeGap 8 = .ok (.iadd, 1) := by decide +kernel
theorem dX7_closeGap_9 : decode cX7_closeGap 9 = .ok (.aload_n 0, 1) := by decide +kernel
theorem dX7_closeGap_10 : decode cX7_closeGap 10 = .ok (.arraylength, 1) := by decide +kernel
theorem dX7_closeGap_11 : decode cX7_closeGap 11 = .ok (.if_icmp .ge 17, 3) := by decide +kernel
theorem dX7_closeGap_14 : decode cX7_closeGap 14 = .ok (.aload_n 0, 1) := by decide +kernel
theorem dX7_closeGap_15 : decode cX7_closeGap 15 = .ok (.iload_n 2, 1) := by decide +kernel
theorem dX7_closeGap_16 : decode cX7_closeGap 16 = .ok (.aload_n 0, 1) := by decide +kernel
theorem dX7_closeGap_17 : decode cX7_closeGap 17 = .ok (.iload_n 2, 1) := by decide +kernel
theorem dX7_closeGap_18 : decode cX7_closeGap 18 = .ok (.iconst 1, 1) := by decide +kernel
theorem dX7_closeGap_19 : decode cX7_closeGap 19 = .ok (.iadd, 1) := by decide +kernel
theorem dX7_closeGap_20 : decode cX7_closeGap 20 = .ok (.iaload, 1) := by decide +kernel
theorem dX7_closeGap_21 : decode cX7_closeGap 21 = .ok (.iastore, 1) := by decide +kernel
theorem dX7_closeGap_22 : decode cX7_closeGap 22 = .ok (.iinc 2 1, 3) := by decide +kernel
theorem dX7_closeGap_25 : decode cX7_closeGap 25 = .ok (.goto (-19), 3) := by decide +kernel
theorem dX7_closeGap_28 : decode cX7_closeGap 28 = .ok (.return_, 1) := by decide +kernel
