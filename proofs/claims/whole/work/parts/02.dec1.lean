theorem dX0_init_0 : decode cX0_init 0 = .ok (.aload_n 0, 1) := by decide +kernel
theorem dX0_init_1 : decode cX0_init 1 = .ok (.invokespecial 3, 3) := by decide +kernel
theorem dX0_init_4 : decode cX0_init 4 = .ok (.aload_n 0, 1) := by decide +kernel
theorem dX0_init_5 : decode cX0_init 5 = .ok (.bipush 18, 2) := by decide +kernel
theorem dX0_init_7 : decode cX0_init 7 = .ok (.newarray .char, 2) := by decide +kernel
theorem dX0_init_9 : decode cX0_init 9 = .ok (.putfield 9, 3) := by decide +kernel
theorem dX0_init_12 : decode cX0_init 12 = .ok (.aload_n 0, 1) := by decide +kernel
theorem dX0_init_13 : decode cX0_init 13 = .ok (.iconst 0, 1) := by decide +kernel
theorem dX0_init_14 : decode cX0_init 14 = .ok (.putfield 15, 3) := by decide +kernel
theorem dX0_init_17 : decode cX0_init 17 = .ok (.return_, 1) := by decide +kernel
theorem dX0_write_0 : decode cX0_write 0 = .ok (.aload_n 0, 1) := by decide +kernel
theorem dX0_write_1 : decode cX0_write 1 = .ok (.iconst 0, 1) := by decide +kernel
theorem dX0_write_2 : decode cX0_write 2 = .ok (.putfield 15, 3) := by decide +kernel
theorem dX0_write_5 : decode cX0_write 5 = .ok (.aload_n 0, 1) := by decide +kernel
theorem dX0_write_6 : decode cX0_write 6 = .ok (.bipush 97, 2) := by decide +kernel
theorem dX0_write_8 : decode cX0_write 8 = .ok (.aload_n 1, 1) := by decide +kernel
theorem dX0_write_9 : decode cX0_write 9 = .ok (.getfield 19, 3) := by decide +kernel
theorem dX0_write_12 : decode cX0_write 12 = .ok (.iload_n 2, 1) := by decide +kernel
theorem dX0_write_13 : decode cX0_write 13 = .ok (.iaload, 1) := by decide +kernel
theorem dX0_write_14 : decode cX0_write 14 = .ok (.iadd, 1) := by decide +kernel
theorem dX0_write_15 : decode cX0_write 15 = .ok (.invokevirtual 25, 3) := by decide +kernel
theorem dX0_write_18 : decode cX0_write 18 = .ok (.iconst 0, 1) := by decide +kernel
theorem dX0_write_19 : decode cX0_write 19 = .ok (.istore_n 3, 1) := by decide +kernel
theorem dX0_write_20 : decode cX0_write 20 = .ok (.iload_n 3, 1) := by decide +kernel
theorem dX0_write_21 : decode cX0_write 21 = .ok (.aload_n 1, 1) := by decide +kernel
theorem dX0_write_22 : decode cX0_write 22 = .ok (.getfield 29, 3) := by decide +kernel
theorem dX0_write_25 : decode cX0_write 25 = .ok (.if_icmp .ge 26, 3) := by decide +kernel
theorem dX0_write_28 : decode cX0_write 28 = .ok (.aload_n 1, 1) := by decide +kernel
theorem dX0_write_29 : decode cX0_write 29 = .ok (.iload_n 3, 1) := by decide +kernel
theorem dX0_write_30 : decode cX0_write 30 = .ok (.iload_n 2, 1) := by decide +kernel
theorem dX0_write_31 : decode cX0_write 31 = .ok (.invokevirtual 32, 3) := by decide +kernel
theorem dX0_write_34 : decode cX0_write 34 = .ok (.ifCond .eq 11, 3) := by decide +kernel
theorem dX0_write_37 : decode cX0_write 37 = .ok (.aload_n 0, 1) := by decide +kernel
theorem dX0_write_38 : decode cX0_write 38 = .ok (.bipush 48, 2) := by decide +kernel
theorem dX0_write_40 : decode cX0_write 40 = .ok (.iload_n 3, 1) := by decide +kernel
theorem dX0_write_41 : decode cX0_write 41 = .ok (.iadd, 1) := by decide +kernel
theorem dX0_write_42 : decode cX0_write 42 = .ok (.invokevirtual 25, 3) := by decide +kernel
theorem dX0_write_45 : decode cX0_write 45 = .ok (.iinc 3 1, 3) := by decide +kernel
theorem dX0_write_48 : decode cX0_write 48 = .ok (.goto (-28), 3) := by decide +kernel
theorem dX0_write_51 : decode cX0_write 51 = .ok (.aload_n 0, 1) := by decide +kernel
theorem dX0_write_52 : decode cX0_write 52 = .ok (.bipush 58, 2) := by decide +kernel
theorem dX0_write_54 : decode cX0_write 54 = .ok (.invokevirtual 25, 3) := by decide +kernel
theorem dX0_write_57 : decode cX0_write 57 = .ok (.aload_n 0, 1) := by decide +kernel
theorem dX0_write_58 : decode cX0_write 58 = .ok (.aload_n 1, 1) := by decide +kernel
theorem dX0_write_59 : decode cX0_write 59 = .ok (.getfield 36, 3) := by decide +kernel
theorem dX0_write_62 : decode cX0_write 62 = .ok (.iload_n 2, 1) := by decide +kernel
theorem dX0_write_63 : decode cX0_write 63 = .ok (.iaload, 1) := by decide +kernel
theorem dX0_write_64 : decode cX0_write 64 = .ok (.invokevirtual 39, 3) := by decide +kernel
theorem dX0_write_67 : decode cX0_write 67 = .ok (.aload_n 0, 1) := by decide +kernel
theorem dX0_write_68 : decode cX0_write 68 = .ok (.bipush 42, 2) := by decide +kernel
theorem dX0_write_70 : decode cX0_write 70 = .ok (.invokevirtual 25, 3) := by decide +kernel
theorem dX0_write_73 : decode cX0_write 73 = .ok (.aload_n 0, 1) := by decide +kernel
theorem dX0_write_74 : decode cX0_write 74 = .ok (.aload_n 1, 1) := by decide +kernel
theorem dX0_write_75 : decode cX0_write 75 = .ok (.getfield 42, 3) := by decide +kernel
theorem dX0_write_78 : decode cX0_write 78 = .ok (.iload_n 2, 1) := by decide +kernel
theorem dX0_write_79 : decode cX0_write 79 = .ok (.iaload, 1) := by decide +kernel
theorem dX0_write_80 : decode cX0_write 80 = .ok (.invokevirtual 39, 3) := by decide +kernel
theorem dX0_write_83 : decode cX0_write 83 = .ok (.aload_n 0, 1) := by decide +kernel
theorem dX0_write_84 : decode cX0_write 84 = .ok (.bipush 59, 2) := by decide +kernel
theorem dX0_write_86 : decode cX0_write 86 = .ok (.invokevirtual 25, 3) := by decide +kernel
theorem dX0_write_89 : decode cX0_write 89 = .ok (.return_, 1) := by decide +kernel
theorem dX0_putNumber_0 : decode cX0_putNumber 0 = .ok (.iload_n 1, 1) := by decide +kernel
theorem dX0_putNumber_1 : decode cX0_putNumber 1 = .ok (.invokestatic 45, 3) := by decide +kernel
theorem dX0_putNumber_4 : decode cX0_putNumber 4 = .ok (.istore_n 2, 1) := by decide +kernel
theorem dX0_putNumber_5 : decode cX0_putNumber 5 = .ok (.iload_n 1, 1) := by decide +kernel
theorem dX0_putNumber_6 : decode cX0_putNumber 6 = .ok (.ifCond .ge 9, 3) := by decide +kernel
theorem dX0_putNumber_9 : decode cX0_putNumber 9 = .ok (.aload_n 0, 1) := by decide +kernel
theorem dX0_putNumber_10 : decode cX0_putNumber 10 = .ok (.bipush 45, 2) := by decide +kernel
theorem dX0_putNumber_12 : decode cX0_putNumber 12 = .ok (.invokevirtual 25, 3) := by decide +kernel
theorem dX0_putNumber_15 : decode cX0_putNumber 15 = .ok (.iload_n 2, 1) := by decide +kernel
theorem dX0_putNumber_16 : decode cX0_putNumber 16 = .ok (.bipush 9, 2) := by decide +kernel
theorem dX0_putNumber_18 : decode cX0_putNumber 18 = .ok (.if_icmp .le 14, 3) := by decide +kernel
theorem dX0_putNumber_21 : decode cX0_putNumber 21 = .ok (.aload_n 0, 1) := by decide +kernel
theorem dX0_putNumber_22 : decode cX0_putNumber 22 = .ok (.bipush 48, 2) := by decide +kernel
theorem dX0_putNumber_24 : decode cX0_putNumber 24 = .ok (.iload_n 2, 1) := by decide +kernel
theorem dX0_putNumber_25 : decode cX0_putNumber 25 = .ok (.bipush 10, 2) := by decide +kernel
theorem dX0_putNumber_27 : decode cX0_putNumber 27 = .ok (.idiv, 1) := by decide +kernel
theorem dX0_putNumber_28 : decode cX0_putNumber 28 = .ok (.iadd, 1) := by decide +kernel
theorem dX0_putNumber_29 : decode cX0_putNumber 29 = .ok (.invokevirtual 25, 3) := by decide +kernel
theorem dX0_putNumber_32 : decode cX0_putNumber 32 = .ok (.aload_n 0, 1) := by decide +kernel
theorem dX0_putNumber_33 : decode cX0_putNumber 33 = .ok (.bipush 48, 2) := by decide +kernel
theorem dX0_putNumber_35 : decode cX0_putNumber 35 = .ok (.iload_n 2, 1) := by decide +kernel
theorem dX0_putNumber_36 : decode cX0_putNumber 36 = .ok (.bipush 10, 2) := by decide +kernel
theorem dX0_putNumber_38 : decode cX0_putNumber 38 = .ok (.irem, 1) := by decide +kernel
theorem dX0_putNumber_39 : decode cX0_putNumber 39 = .ok (.iadd, 1) := by decide +kernel
theorem dX0_putNumber_40 : decode cX0_putNumber 40 = .ok (.invokevirtual 25, 3) := by decide +kernel
theorem dX0_putNumber_43 : decode cX0_putNumber 43 = .ok (.return_, 1) := by decide +kernel
theorem dX0_put_0 : decode cX0_put 0 = .ok (.aload_n 0, 1) := by decide +kernel
theorem dX0_put_1 : decode cX0_put 1 = .ok (.getfield 15, 3) := by decide +kernel
theorem dX0_put_4 : decode cX0_put 4 = .ok (.bipush 18, 2) := by decide +kernel
theorem dX0_put_6 : decode cX0_put 6 = .ok (.if_icmp .ge 24, 3) := by decide +kernel
theorem dX0_put_9 : decode cX0_put 9 = .ok (.aload_n 0, 1) := by decide +kernel
theorem dX0_put_10 : decode cX0_put 10 = .ok (.getfield 9, 3) := by decide +kernel
theorem dX0_put_13 : decode cX0_put 13 = .ok (.aload_n 0, 1) := by decide +kernel
theorem dX0_put_14 : decode cX0_put 14 = .ok (.getfield 15, 3) := by decide +kernel
theorem dX0_put_17 : decode cX0_put 17 = .ok (.iload_n 1, 1) := by decide +kernel
theorem dX0_put_18 : decode cX0_put 18 = .ok (.i2c, 1) := by decide +kernel
theorem dX0_put_19 : decode cX0_put 19 = .ok (.castore, 1) := by decide +kernel
theorem dX0_put_20 : decode cX0_put 20 = .ok (.aload_n 0, 1) := by decide +kernel
theorem dX0_put_21 : decode cX0_put 21 = .ok (.dup, 1) := by decide +kernel
theorem dX0_put_22 : decode cX0_put 22 = .ok (.getfield 15, 3) := by decide +kernel
theorem dX0_put_25 : decode cX0_put 25 = .ok (.iconst 1, 1) := by decide +kernel
theorem dX0_put_26 : decode cX0_put 26 = .ok (.iadd, 1) := by decide +kernel
theorem dX0_put_27 : decode cX0_put 27 = .ok (.putfield 15, 3) := by decide +kernel
theorem dX0_put_30 : decode cX0_put 30 = .ok (.return_, 1) := by decide +kernel
theorem dX1_init_0 : decode cX1_init 0 = .ok (.aload_n 0, 1) := by decide +kernel
theorem dX1_init_1 : decode cX1_init 1 = .ok (.invokespecial 3, 3) := by decide +kernel
theorem dX1_init_4 : decode cX1_init 4 = .ok (.aload_n 0, 1) := by decide +kernel
theorem dX1_init_5 : decode cX1_init 5 = .ok (.bipush 8, 2) := by decide +kernel
theorem dX1_init_7 : decode cX1_init 7 = .ok (.anewarray 9, 3) := by decide +kernel
theorem dX1_init_10 : decode cX1_init 10 = .ok (.putfield 11, 3) := by decide +kernel
theorem dX1_init_13 : decode cX1_init 13 = .ok (.aload_n 0, 1) := by decide +kernel
theorem dX1_init_14 : decode cX1_init 14 = .ok (.iconst 0, 1) := by decide +kernel
theorem dX1_init_15 : decode cX1_init 15 = .ok (.putfield 17, 3) := by decide +kernel
theorem dX1_init_18 : decode cX1_init 18 = .ok (.aload_n 0, 1) := by decide +kernel
theorem dX1_init_19 : decode cX1_init 19 = .ok (.iconst 0, 1) := by decide +kernel
theorem dX1_init_20 : decode cX1_init 20 = .ok (.putfield 21, 3) := by decide +kernel
theorem dX1_init_23 : decode cX1_init 23 = .ok (.iconst 0, 1) := by decide +kernel
theorem dX1_init_24 : decode cX1_init 24 = .ok (.istore_n 1, 1) := by decide +kernel
theorem dX1_init_25 : decode cX1_init 25 = .ok (.iload_n 1, 1) := by decide +kernel
theorem dX1_init_26 : decode cX1_init 26 = .ok (.bipush 8, 2) := by decide +kernel
theorem dX1_init_28 : decode cX1_init 28 = .ok (.if_icmp .ge 22, 3) := by decide +kernel
theorem dX1_init_31 : decode cX1_init 31 = .ok (.aload_n 0, 1) := by decide +kernel
theorem dX1_init_32 : decode cX1_init 32 = .ok (.getfield 11, 3) := by decide +kernel
theorem dX1_init_35 : decode cX1_init 35 = .ok (.iload_n 1, 1) := by decide +kernel
theorem dX1_init_36 : decode cX1_init 36 = .ok (.new 9, 3) := by decide +kernel
theorem dX1_init_39 : decode cX1_init 39 = .ok (.dup, 1) := by decide +kernel
theorem dX1_init_40 : decode cX1_init 40 = .ok (.invokespecial 24, 3) := by decide +kernel
theorem dX1_init_43 : decode cX1_init 43 = .ok (.aastore, 1) := by decide +kernel
theorem dX1_init_44 : decode cX1_init 44 = .ok (.iinc 1 1, 3) := by decide +kernel
theorem dX1_init_47 : decode cX1_init 47 = .ok (.goto (-22), 3) := by decide +kernel
theorem dX1_init_50 : decode cX1_init 50 = .ok (.return_, 1) := by decide +kernel
theorem dX1_forget_0 : decode cX1_forget 0 = .ok (.aload_n 0, 1) := by decide +kernel
theorem dX1_forget_1 : decode cX1_forget 1 = .ok (.iconst 0, 1) := by decide +kernel
theorem dX1_forget_2 : decode cX1_forget 2 = .ok (.putfield 21, 3) := by decide +kernel
theorem dX1_forget_5 : decode cX1_forget 5 = .ok (.return_, 1) := by decide +kernel
theorem dX1_remember_0 : decode cX1_remember 0 = .ok (.aload_n 0, 1) := by decide +kernel
theorem dX1_remember_1 : decode cX1_remember 1 = .ok (.getfield 11, 3) := by decide +kernel
theorem dX1_remember_4 : decode cX1_remember 4 = .ok (.aload_n 0, 1) := by decide +kernel
theorem dX1_remember_5 : decode cX1_remember 5 = .ok (.getfield 17, 3) := by decide +kernel
theorem dX1_remember_8 : decode cX1_remember 8 = .ok (.aload_n 0, 1) := by decide +kernel
theorem dX1_remember_9 : decode cX1_remember 9 = .ok (.getfield 21, 3) := by decide +kernel
theorem dX1_remember_12 : decode cX1_remember 12 = .ok (.iadd, 1) := by decide +kernel
theorem dX1_remember_13 : decode cX1_remember 13 = .ok (.bipush 8, 2) := by decide +kernel
theorem dX1_remember_15 : decode cX1_remember 15 = .ok (.irem, 1) := by decide +kernel
theorem dX1_remember_16 : decode cX1_remember 16 = .ok (.aaload, 1) := by decide +kernel
theorem dX1_remember_17 : decode cX1_remember 17 = .ok (.aload_n 1, 1) := by decide +kernel
theorem dX1_remember_18 : decode cX1_remember 18 = .ok (.invokevirtual 25, 3) := by decide +kernel
theorem dX1_remember_21 : decode cX1_remember 21 = .ok (.aload_n 0, 1) := by decide +kernel
theorem dX1_remember_22 : decode cX1_remember 22 = .ok (.getfield 21, 3) := by decide +kernel
theorem dX1_remember_25 : decode cX1_remember 25 = .ok (.bipush 8, 2) := by decide +kernel
theorem dX1_remember_27 : decode cX1_remember 27 = .ok (.if_icmp .ge 16, 3) := by decide +kernel
theorem dX1_remember_30 : decode cX1_remember 30 = .ok (.aload_n 0, 1) := by decide +kernel
theorem dX1_remember_31 : decode cX1_remember 31 = .ok (.dup, 1) := by decide +kernel
theorem dX1_remember_32 : decode cX1_remember 32 = .ok (.getfield 21, 3) := by decide +kernel
theorem dX1_remember_35 : decode cX1_remember 35 = .ok (.iconst 1, 1) := by decide +kernel
theorem dX1_remember_36 : decode cX1_remember 36 = .ok (.iadd, 1) := by decide +kernel
theorem dX1_remember_37 : decode cX1_remember 37 = .ok (.putfield 21, 3) := by decide +kernel
theorem dX1_remember_40 : decode cX1_remember 40 = .ok (.goto 16, 3) := by decide +kernel
theorem dX1_remember_43 : decode cX1_remember 43 = .ok (.aload_n 0, 1) := by decide +kernel
theorem dX1_remember_44 : decode cX1_remember 44 = .ok (.aload_n 0, 1) := by decide +kernel
theorem dX1_remember_45 : decode cX1_remember 45 = .ok (.getfield 17, 3) := by decide +kernel
theorem dX1_remember_48 : decode cX1_remember 48 = .ok (.iconst 1, 1) := by decide +kernel
theorem dX1_remember_49 : decode cX1_remember 49 = .ok (.iadd, 1) := by decide +kernel
theorem dX1_remember_50 : decode cX1_remember 50 = .ok (.bipush 8, 2) := by decide +kernel
theorem dX1_remember_52 : decode cX1_remember 52 = .ok (.irem, 1) := by decide +kernel
theorem dX1_remember_53 : decode cX1_remember 53 = .ok (.putfield 17, 3) := by decide +kernel
theorem dX1_remember_56 : decode cX1_remember 56 = .ok (.return_, 1) := by decide +kernel
theorem dX1_bringBack_0 : decode cX1_bringBack 0 = .ok (.aload_n 0, 1) := by decide +kernel
theorem dX1_bringBack_1 : decode cX1_bringBack 1 = .ok (.dup, 1) := by decide +kernel
theorem dX1_bringBack_2 : decode cX1_bringBack 2 = .ok (.getfield 21, 3) := by decide +kernel
theorem dX1_bringBack_5 : decode cX1_bringBack 5 = .ok (.iconst 1, 1) := by decide +kernel
theorem dX1_bringBack_6 : decode cX1_bringBack 6 = .ok (.isub, 1) := by decide +kernel
theorem dX1_bringBack_7 : decode cX1_bringBack 7 = .ok (.putfield 21, 3) := by decide +kernel
theorem dX1_bringBack_10 : decode cX1_bringBack 10 = .ok (.aload_n 1, 1) := by decide +kernel
theorem dX1_bringBack_11 : decode cX1_bringBack 11 = .ok (.aload_n 0, 1) := by decide +kernel
theorem dX1_bringBack_12 : decode cX1_bringBack 12 = .ok (.getfield 11, 3) := by decide +kernel
theorem dX1_bringBack_15 : decode cX1_bringBack 15 = .ok (.aload_n 0, 1) := by decide +kernel
theorem dX1_bringBack_16 : decode cX1_bringBack 16 = .ok (.getfield 17, 3) := by decide +kernel
theorem dX1_bringBack_19 : decode cX1_bringBack 19 = .ok (.aload_n 0, 1) := by decide +kernel
theorem dX1_bringBack_20 : decode cX1_bringBack 20 = .ok (.getfield 21, 3) := by decide +kernel
theorem dX1_bringBack_23 : decode cX1_bringBack 23 = .ok (.iadd, 1) := by decide +kernel
theorem dX1_bringBack_24 : decode cX1_bringBack 24 = .ok (.bipush 8, 2) := by decide +kernel
theorem dX1_bringBack_26 : decode cX1_bringBack 26 = .ok (.irem, 1) := by decide +kernel
theorem dX1_bringBack_27 : decode cX1_bringBack 27 = .ok (.aaload, 1) := by decide +kernel
theorem dX1_bringBack_28 : decode cX1_bringBack 28 = .ok (.invokevirtual 25, 3) := by decide +kernel
theorem dX1_bringBack_31 : decode cX1_bringBack 31 = .ok (.return_, 1) := by decide +kernel
theorem dX2_init_0 : decode cX2_init 0 = .ok (.aload_n 0, 1) := by decide +kernel
theorem dX2_init_1 : decode cX2_init 1 = .ok (.invokespecial 3, 3) := by decide +kernel
theorem dX2_init_4 : decode cX2_init 4 = .ok (.aload_n 0, 1) := by decide +kernel
theorem dX2_init_5 : decode cX2_init 5 = .ok (.bipush 60, 2) := by decide +kernel
theorem dX2_init_7 : decode cX2_init 7 = .ok (.newarray .char, 2) := by decide +kernel
theorem dX2_init_9 : decode cX2_init 9 = .ok (.putfield 9, 3) := by decide +kernel
theorem dX2_init_12 : decode cX2_init 12 = .ok (.aload_n 0, 1) := by decide +kernel
theorem dX2_init_13 : decode cX2_init 13 = .ok (.iconst 0, 1) := by decide +kernel
theorem dX2_init_14 : decode cX2_init 14 = .ok (.putfield 15, 3) := by decide +kernel
theorem dX2_init_17 : decode cX2_init 17 = .ok (.aload_n 0, 1) := by decide +kernel
theorem dX2_init_18 : decode cX2_init 18 = .ok (.iconst 0, 1) := by decide +kernel
theorem dX2_init_19 : decode cX2_init 19 = .ok (.putfield 19, 3) := by decide +kernel
theorem dX2_init_22 : decode cX2_init 22 = .ok (.aload_n 0, 1) := by decide +kernel
theorem dX2_init_23 : decode cX2_init 23 = .ok (.bipush 20, 2) := by decide +kernel
theorem dX2_init_25 : decode cX2_init 25 = .ok (.newarray .int, 2) := by decide +kernel
theorem dX2_init_27 : decode cX2_init 27 = .ok (.putfield 22, 3) := by decide +kernel
theorem dX2_init_30 : decode cX2_init 30 = .ok (.aload_n 0, 1) := by decide +kernel
theorem dX2_init_31 : decode cX2_init 31 = .ok (.bipush 20, 2) := by decide +kernel
theorem dX2_init_33 : decode cX2_init 33 = .ok (.newarray .int, 2) := by decide +kernel
theorem dX2_init_35 : decode cX2_init 35 = .ok (.putfield 26, 3) := by decide +kernel
theorem dX2_init_38 : decode cX2_init 38 = .ok (.aload_n 0, 1) := by decide +kernel
theorem dX2_init_39 : decode cX2_init 39 = .ok (.bipush 20, 2) := by decide +kernel
theorem dX2_init_41 : decode cX2_init 41 = .ok (.newarray .int, 2) := by decide +kernel
theorem dX2_init_43 : decode cX2_init 43 = .ok (.putfield 29, 3) := by decide +kernel
theorem dX2_init_46 : decode cX2_init 46 = .ok (.aload_n 0, 1) := by decide +kernel
theorem dX2_init_47 : decode cX2_init 47 = .ok (.bipush 20, 2) := by decide +kernel
theorem dX2_init_49 : decode cX2_init 49 = .ok (.newarray .int, 2) := by decide +kernel
theorem dX2_init_51 : decode cX2_init 51 = .ok (.putfield 32, 3) := by decide +kernel
theorem dX2_init_54 : decode cX2_init 54 = .ok (.aload_n 0, 1) := by decide +kernel
theorem dX2_init_55 : decode cX2_init 55 = .ok (.iconst 0, 1) := by decide +kernel
theorem dX2_init_56 : decode cX2_init 56 = .ok (.putfield 35, 3) := by decide +kernel
theorem dX2_init_59 : decode cX2_init 59 = .ok (.return_, 1) := by decide +kernel
theorem dX2_put_0 : decode cX2_put 0 = .ok (.aload_n 0, 1) := by decide +kernel
theorem dX2_put_1 : decode cX2_put 1 = .ok (.getfield 9, 3) := by decide +kernel
theorem dX2_put_4 : decode cX2_put 4 = .ok (.aload_n 0, 1) := by decide +kernel
theorem dX2_put_5 : decode cX2_put 5 = .ok (.getfield 15, 3) := by decide +kernel
theorem dX2_put_8 : decode cX2_put 8 = .ok (.iload_n 1, 1) := by decide +kernel
theorem dX2_put_9 : decode cX2_put 9 = .ok (.castore, 1) := by decide +kernel
theorem dX2_put_10 : decode cX2_put 10 = .ok (.aload_n 0, 1) := by decide +kernel
theorem dX2_put_11 : decode cX2_put 11 = .ok (.dup, 1) := by decide +kernel
theorem dX2_put_12 : decode cX2_put 12 = .ok (.getfield 15, 3) := by decide +kernel
theorem dX2_put_15 : decode cX2_put 15 = .ok (.iconst 1, 1) := by decide +kernel
theorem dX2_put_16 : decode cX2_put 16 = .ok (.iadd, 1) := by decide +kernel
theorem dX2_put_17 : decode cX2_put 17 = .ok (.putfield 15, 3) := by decide +kernel
theorem dX2_put_20 : decode cX2_put 20 = .ok (.return_, 1) := by decide +kernel
theorem dX2_parse_0 : decode cX2_parse 0 = .ok (.aload_n 0, 1) := by decide +kernel
theorem dX2_parse_1 : decode cX2_parse 1 = .ok (.iconst 0, 1) := by decide +kernel
theorem dX2_parse_2 : decode cX2_parse 2 = .ok (.putfield 19, 3) := by decide +kernel
theorem dX2_parse_5 : decode cX2_parse 5 = .ok (.aload_n 0, 1) := by decide +kernel
theorem dX2_parse_6 : decode cX2_parse 6 = .ok (.iconst 0, 1) := by decide +kernel
theorem dX2_parse_7 : decode cX2_parse 7 = .ok (.putfield 35, 3) := by decide +kernel
theorem dX2_parse_10 : decode cX2_parse 10 = .ok (.aload_n 0, 1) := by decide +kernel
theorem dX2_parse_11 : decode cX2_parse 11 = .ok (.getfield 35, 3) := by decide +kernel
theorem dX2_parse_14 : decode cX2_parse 14 = .ok (.bipush 20, 2) := by decide +kernel
theorem dX2_parse_16 : decode cX2_parse 16 = .ok (.if_icmp .ge 47, 3) := by decide +kernel
theorem dX2_parse_19 : decode cX2_parse 19 = .ok (.aload_n 0, 1) := by decide +kernel
theorem dX2_parse_20 : decode cX2_parse 20 = .ok (.invokevirtual 38, 3) := by decide +kernel
theorem dX2_parse_23 : decode cX2_parse 23 = .ok (.ifCond .eq 15, 3) := by decide +kernel
theorem dX2_parse_26 : decode cX2_parse 26 = .ok (.aload_n 0, 1) := by decide +kernel
theorem dX2_parse_27 : decode cX2_parse 27 = .ok (.bipush 59, 2) := by decide +kernel
theorem dX2_parse_29 : decode cX2_parse 29 = .ok (.bipush 59, 2) := by decide +kernel
theorem dX2_parse_31 : decode cX2_parse 31 = .ok (.invokevirtual 42, 3) := by decide +kernel
theorem dX2_parse_34 : decode cX2_parse 34 = .ok (.iconst (-1), 1) := by decide +kernel
theorem dX2_parse_35 : decode cX2_parse 35 = .ok (.if_icmp .ne 5, 3) := by decide +kernel
theorem dX2_parse_38 : decode cX2_parse 38 = .ok (.iconst 0, 1) := by decide +kernel
theorem dX2_parse_39 : decode cX2_parse 39 = .ok (.ireturn, 1) := by decide +kernel
theorem dX2_parse_40 : decode cX2_parse 40 = .ok (.aload_n 0, 1) := by decide +kernel
theorem dX2_parse_41 : decode cX2_parse 41 = .ok (.dup, 1) := by decide +kernel
theorem dX2_parse_42 : decode cX2_parse 42 = .ok (.getfield 35, 3) := by decide +kernel
theorem dX2_parse_45 : decode cX2_parse 45 = .ok (.iconst 1, 1) := by decide +kernel
theorem dX2_parse_46 : decode cX2_parse 46 = .ok (.iadd, 1) := by decide +kernel
theorem dX2_parse_47 : decode cX2_parse 47 = .ok (.putfield 35, 3) := by decide +kernel
theorem dX2_parse_50 : decode cX2_parse 50 = .ok (.aload_n 0, 1) := by decide +kernel
theorem dX2_parse_51 : decode cX2_parse 51 = .ok (.getfield 19, 3) := by decide +kernel
theorem dX2_parse_54 : decode cX2_parse 54 = .ok (.aload_n 0, 1) := by decide +kernel
theorem dX2_parse_55 : decode cX2_parse 55 = .ok (.getfield 15, 3) := by decide +kernel
theorem dX2_parse_58 : decode cX2_parse 58 = .ok (.if_icmp .ne (-48), 3) := by decide +kernel
theorem dX2_parse_61 : decode cX2_parse 61 = .ok (.iconst 1, 1) := by decide +kernel
theorem dX2_parse_62 : decode cX2_parse 62 = .ok (.ireturn, 1) := by decide +kernel
theorem dX2_parse_63 : decode cX2_parse 63 = .ok (.iconst 0, 1) := by decide +kernel
theorem dX2_parse_64 : decode cX2_parse 64 = .ok (.ireturn, 1) := by decide +kernel
theorem dX2_take_0 : decode cX2_take 0 = .ok (.aload_n 0, 1) := by decide +kernel
theorem dX2_take_1 : decode cX2_take 1 = .ok (.getfield 19, 3) := by decide +kernel
theorem dX2_take_4 : decode cX2_take 4 = .ok (.aload_n 0, 1) := by decide +kernel
theorem dX2_take_5 : decode cX2_take 5 = .ok (.getfield 15, 3) := by decide +kernel
theorem dX2_take_8 : decode cX2_take 8 = .ok (.if_icmp .ge 29, 3) := by decide +kernel
theorem dX2_take_11 : decode cX2_take 11 = .ok (.aload_n 0, 1) := by decide +kernel
theorem dX2_take_12 : decode cX2_take 12 = .ok (.getfield 9, 3) := by decide +kernel
theorem dX2_take_15 : decode cX2_take 15 = .ok (.aload_n 0, 1) := by decide +kernel
theorem dX2_take_16 : decode cX2_take 16 = .ok (.getfield 19, 3) := by decide +kernel
theorem dX2_take_19 : decode cX2_take 19 = .ok (.caload, 1) := by decide +kernel
theorem dX2_take_20 : decode cX2_take 20 = .ok (.iload_n 1, 1) := by decide +kernel
theorem dX2_take_21 : decode cX2_take 21 = .ok (.if_icmp .lt 16, 3) := by decide +kernel
theorem dX2_take_24 : decode cX2_take 24 = .ok (.aload_n 0, 1) := by decide +kernel
theorem dX2_take_25 : decode cX2_take 25 = .ok (.getfield 9, 3) := by decide +kernel
theorem dX2_take_28 : decode cX2_take 28 = .ok (.aload_n 0, 1) := by decide +kernel
theorem dX2_take_29 : decode cX2_take 29 = .ok (.getfield 19, 3) := by decide +kernel
theorem dX2_take_32 : decode cX2_take 32 = .ok (.caload, 1) := by decide +kernel
theorem dX2_take_33 : decode cX2_take 33 = .ok (.iload_n 2, 1) := by decide +kernel
theorem dX2_take_34 : decode cX2_take 34 = .ok (.if_icmp .le 5, 3) := by decide +kernel
theorem dX2_take_37 : decode cX2_take 37 = .ok (.iconst (-1), 1) := by decide +kernel
theorem dX2_take_38 : decode cX2_take 38 = .ok (.ireturn, 1) := by decide +kernel
theorem dX2_take_39 : decode cX2_take 39 = .ok (.aload_n 0, 1) := by decide +kernel
theorem dX2_take_40 : decode cX2_take 40 = .ok (.dup, 1) := by decide +kernel
theorem dX2_take_41 : decode cX2_take 41 = .ok (.getfield 19, 3) := by decide +kernel
theorem dX2_take_44 : decode cX2_take 44 = .ok (.iconst 1, 1) := by decide +kernel
theorem dX2_take_45 : decode cX2_take 45 = .ok (.iadd, 1) := by decide +kernel
theorem dX2_take_46 : decode cX2_take 46 = .ok (.putfield 19, 3) := by decide +kernel
theorem dX2_take_49 : decode cX2_take 49 = .ok (.aload_n 0, 1) := by decide +kernel
theorem dX2_take_50 : decode cX2_take 50 = .ok (.getfield 9, 3) := by decide +kernel
theorem dX2_take_53 : decode cX2_take 53 = .ok (.aload_n 0, 1) := by decide +kernel
theorem dX2_take_54 : decode cX2_take 54 = .ok (.getfield 19, 3) := by decide +kernel
theorem dX2_take_57 : decode cX2_take 57 = .ok (.iconst 1, 1) := by decide +kernel
theorem dX2_take_58 : decode cX2_take 58 = .ok (.isub, 1) := by decide +kernel
theorem dX2_take_59 : decode cX2_take 59 = .ok (.caload, 1) := by decide +kernel
theorem dX2_take_60 : decode cX2_take 60 = .ok (.ireturn, 1) := by decide +kernel
theorem dX2_parseEntry_0 : decode cX2_parseEntry 0 = .ok (.aload_n 0, 1) := by decide +kernel
theorem dX2_parseEntry_1 : decode cX2_parseEntry 1 = .ok (.bipush 118, 2) := by decide +kernel
theorem dX2_parseEntry_3 : decode cX2_parseEntry 3 = .ok (.bipush 118, 2) := by decide +kernel
theorem dX2_parseEntry_5 : decode cX2_parseEntry 5 = .ok (.invokevirtual 42, 3) := by decide +kernel
theorem dX2_parseEntry_8 : decode cX2_parseEntry 8 = .ok (.iconst (-1), 1) := by decide +kernel
theorem dX2_parseEntry_9 : decode cX2_parseEntry 9 = .ok (.if_icmp .eq 8, 3) := by decide +kernel
theorem dX2_parseEntry_12 : decode cX2_parseEntry 12 = .ok (.aload_n 0, 1) := by decide +kernel
theorem dX2_parseEntry_13 : decode cX2_parseEntry 13 = .ok (.invokevirtual 46, 3) := by decide +kernel
theorem dX2_parseEntry_16 : decode cX2_parseEntry 16 = .ok (.ireturn, 1) := by decide +kernel
theorem dX2_parseEntry_17 : decode cX2_parseEntry 17 = .ok (.aload_n 0, 1) := by decide +kernel
theorem dX2_parseEntry_18 : decode cX2_parseEntry 18 = .ok (.invokevirtual 49, 3) := by decide +kernel
theorem dX2_parseEntry_21 : decode cX2_parseEntry 21 = .ok (.ifCond .eq 28, 3) := by decide +kernel
theorem dX2_parseEntry_24 : decode cX2_parseEntry 24 = .ok (.aload_n 0, 1) := by decide +kernel
theorem dX2_parseEntry_25 : decode cX2_parseEntry 25 = .ok (.invokevirtual 52, 3) := by decide +kernel
theorem dX2_parseEntry_28 : decode cX2_parseEntry 28 = .ok (.ifCond .eq 21, 3) := by decide +kernel
theorem dX2_parseEntry_31 : decode cX2_parseEntry 31 = .ok (.aload_n 0, 1) := by decide +kernel
theorem dX2_parseEntry_32 : decode cX2_parseEntry 32 = .ok (.invokevirtual 55, 3) := by decide +kernel
theorem dX2_parseEntry_35 : decode cX2_parseEntry 35 = .ok (.ifCond .eq 14, 3) := by decide +kernel
theorem dX2_parseEntry_38 : decode cX2_parseEntry 38 = .ok (.aload_n 0, 1) := by decide +kernel
theorem dX2_parseEntry_39 : decode cX2_parseEntry 39 = .ok (.invokevirtual 58, 3) := by decide +kernel
theorem dX2_parseEntry_42 : decode cX2_parseEntry 42 = .ok (.ifCond .eq 7, 3) := by decide +kernel
theorem dX2_parseEntry_45 : decode cX2_parseEntry 45 = .ok (.iconst 1, 1) := by decide +kernel
theorem dX2_parseEntry_46 : decode cX2_parseEntry 46 = .ok (.goto 4, 3) := by decide +kernel
theorem dX2_parseEntry_49 : decode cX2_parseEntry 49 = .ok (.iconst 0, 1) := by decide +kernel
theorem dX2_parseEntry_50 : decode cX2_parseEntry 50 = .ok (.ireturn, 1) := by decide +kernel
theorem dX2_parseSize_0 : decode cX2_parseSize 0 = .ok (.aload_n 0, 1) := by decide +kernel
theorem dX2_parseSize_1 : decode cX2_parseSize 1 = .ok (.bipush 50, 2) := by decide +kernel
theorem dX2_parseSize_3 : decode cX2_parseSize 3 = .ok (.bipush 56, 2) := by decide +kernel
theorem dX2_parseSize_5 : decode cX2_parseSize 5 = .ok (.invokevirtual 42, 3) := by decide +kernel
theorem dX2_parseSize_8 : decode cX2_parseSize 8 = .ok (.istore_n 1, 1) := by decide +kernel
theorem dX2_parseSize_9 : decode cX2_parseSize 9 = .ok (.aload_n 0, 1) := by decide +kernel
theorem dX2_parseSize_10 : decode cX2_parseSize 10 = .ok (.getfield 22, 3) := by decide +kernel
theorem dX2_parseSize_13 : decode cX2_parseSize 13 = .ok (.aload_n 0, 1) := by decide +kernel
theorem dX2_parseSize_14 : decode cX2_parseSize 14 = .ok (.getfield 35, 3) := by decide +kernel
theorem dX2_parseSize_17 : decode cX2_parseSize 17 = .ok (.iconst (-1), 1) := by decide +kernel
theorem dX2_parseSize_18 : decode cX2_parseSize 18 = .ok (.iastore, 1) := by decide +kernel
theorem dX2_parseSize_19 : decode cX2_parseSize 19 = .ok (.aload_n 0, 1) := by decide +kernel
theorem dX2_parseSize_20 : decode cX2_parseSize 20 = .ok (.getfield 29, 3) := by decide +kernel
theorem dX2_parseSize_23 : decode cX2_parseSize 23 = .ok (.aload_n 0, 1) := by decide +kernel
theorem dX2_parseSize_24 : decode cX2_parseSize 24 = .ok (.getfield 35, 3) := by decide +kernel
theorem dX2_parseSize_27 : decode cX2_parseSize 27 = .ok (.iload_n 1, 1) := by decide +kernel
theorem dX2_parseSize_28 : decode cX2_parseSize 28 = .ok (.bipush 48, 2) := by decide +kernel
theorem dX2_parseSize_30 : decode cX2_parseSize 30 = .ok (.isub, 1) := by decide +kernel
theorem dX2_parseSize_31 : decode cX2_parseSize 31 = .ok (.iastore, 1) := by decide +kernel
theorem dX2_parseSize_32 : decode cX2_parseSize 32 = .ok (.iload_n 1, 1) := by decide +kernel
theorem dX2_parseSize_33 : decode cX2_parseSize 33 = .ok (.iconst (-1), 1) := by decide +kernel
theorem dX2_parseSize_34 : decode cX2_parseSize 34 = .ok (.if_icmp .eq 7, 3) := by decide +kernel
theorem dX2_parseSize_37 : decode cX2_parseSize 37 = .ok (.iconst 1, 1) := by decide +kernel
theorem dX2_parseSize_38 : decode cX2_parseSize 38 = .ok (.goto 4, 3) := by decide +kernel
theorem dX2_parseSize_41 : decode cX2_parseSize 41 = .ok (.iconst 0, 1) := by decide +kernel
theorem dX2_parseSize_42 : decode cX2_parseSize 42 = .ok (.ireturn, 1) := by decide +kernel
theorem dX2_parseKind_0 : decode cX2_parseKind 0 = .ok (.aload_n 0, 1) := by decide +kernel
theorem dX2_parseKind_1 : decode cX2_parseKind 1 = .ok (.bipush 97, 2) := by decide +kernel
theorem dX2_parseKind_3 : decode cX2_parseKind 3 = .ok (.bipush 102, 2) := by decide +kernel
theorem dX2_parseKind_5 : decode cX2_parseKind 5 = .ok (.invokevirtual 42, 3) := by decide +kernel
theorem dX2_parseKind_8 : decode cX2_parseKind 8 = .ok (.istore_n 1, 1) := by decide +kernel
theorem dX2_parseKind_9 : decode cX2_parseKind 9 = .ok (.aload_n 0, 1) := by decide +kernel
theorem dX2_parseKind_10 : decode cX2_parseKind 10 = .ok (.getfield 22, 3) := by decide +kernel
theorem dX2_parseKind_13 : decode cX2_parseKind 13 = .ok (.aload_n 0, 1) := by decide +kernel
theorem dX2_parseKind_14 : decode cX2_parseKind 14 = .ok (.getfield 35, 3) := by decide +kernel
theorem dX2_parseKind_17 : decode cX2_parseKind 17 = .ok (.iload_n 1, 1) := by decide +kernel
theorem dX2_parseKind_18 : decode cX2_parseKind 18 = .ok (.bipush 97, 2) := by decide +kernel
theorem dX2_parseKind_20 : decode cX2_parseKind 20 = .ok (.isub, 1) := by decide +kernel
theorem dX2_parseKind_21 : decode cX2_parseKind 21 = .ok (.iastore, 1) := by decide +kernel
theorem dX2_parseKind_22 : decode cX2_parseKind 22 = .ok (.iload_n 1, 1) := by decide +kernel
theorem dX2_parseKind_23 : decode cX2_parseKind 23 = .ok (.iconst (-1), 1) := by decide +kernel
theorem dX2_parseKind_24 : decode cX2_parseKind 24 = .ok (.if_icmp .eq 7, 3) := by decide +kernel
theorem dX2_parseKind_27 : decode cX2_parseKind 27 = .ok (.iconst 1, 1) := by decide +kernel
theorem dX2_parseKind_28 : decode cX2_parseKind 28 = .ok (.goto 4, 3) := by decide +kernel
theorem dX2_parseKind_31 : decode cX2_parseKind 31 = .ok (.iconst 0, 1) := by decide +kernel
theorem dX2_parseKind_32 : decode cX2_parseKind 32 = .ok (.ireturn, 1) := by decide +kernel
theorem dX2_parseMembers_0 : decode cX2_parseMembers 0 = .ok (.aload_n 0, 1) := by decide +kernel
theorem dX2_parseMembers_1 : decode cX2_parseMembers 1 = .ok (.bipush 48, 2) := by decide +kernel
theorem dX2_parseMembers_3 : decode cX2_parseMembers 3 = .ok (.bipush 56, 2) := by decide +kernel
theorem dX2_parseMembers_5 : decode cX2_parseMembers 5 = .ok (.invokevirtual 42, 3) := by decide +kernel
theorem dX2_parseMembers_8 : decode cX2_parseMembers 8 = .ok (.istore_n 1, 1) := by decide +kernel
theorem dX2_parseMembers_9 : decode cX2_parseMembers 9 = .ok (.iload_n 1, 1) := by decide +kernel
theorem dX2_parseMembers_10 : decode cX2_parseMembers 10 = .ok (.iconst (-1), 1) := by decide +kernel
theorem dX2_parseMembers_11 : decode cX2_parseMembers 11 = .ok (.if_icmp .ne 5, 3) := by decide +kernel
theorem dX2_parseMembers_14 : decode cX2_parseMembers 14 = .ok (.iconst 0, 1) := by decide +kernel
theorem dX2_parseMembers_15 : decode cX2_parseMembers 15 = .ok (.ireturn, 1) := by decide +kernel
theorem dX2_parseMembers_16 : decode cX2_parseMembers 16 = .ok (.aload_n 0, 1) := by decide +kernel
theorem dX2_parseMembers_17 : decode cX2_parseMembers 17 = .ok (.iload_n 1, 1) := by decide +kernel
theorem dX2_parseMembers_18 : decode cX2_parseMembers 18 = .ok (.iconst 1, 1) := by decide +kernel
theorem dX2_parseMembers_19 : decode cX2_parseMembers 19 = .ok (.iadd, 1) := by decide +kernel
theorem dX2_parseMembers_20 : decode cX2_parseMembers 20 = .ok (.bipush 57, 2) := by decide +kernel
theorem dX2_parseMembers_22 : decode cX2_parseMembers 22 = .ok (.invokevirtual 42, 3) := by decide +kernel
theorem dX2_parseMembers_25 : decode cX2_parseMembers 25 = .ok (.istore_n 2, 1) := by decide +kernel
theorem dX2_parseMembers_26 : decode cX2_parseMembers 26 = .ok (.iload_n 2, 1) := by decide +kernel
theorem dX2_parseMembers_27 : decode cX2_parseMembers 27 = .ok (.iconst (-1), 1) := by decide +kernel
theorem dX2_parseMembers_28 : decode cX2_parseMembers 28 = .ok (.if_icmp .ne 5, 3) := by decide +kernel
theorem dX2_parseMembers_31 : decode cX2_parseMembers 31 = .ok (.iconst 0, 1) := by decide +kernel
theorem dX2_parseMembers_32 : decode cX2_parseMembers 32 = .ok (.ireturn, 1) := by decide +kernel
theorem dX2_parseMembers_33 : decode cX2_parseMembers 33 = .ok (.iconst 1, 1) := by decide +kernel
theorem dX2_parseMembers_34 : decode cX2_parseMembers 34 = .ok (.iload_n 1, 1) := by decide +kernel
theorem dX2_parseMembers_35 : decode cX2_parseMembers 35 = .ok (.bipush 48, 2) := by decide +kernel
theorem dX2_parseMembers_37 : decode cX2_parseMembers 37 = .ok (.isub, 1) := by decide +kernel
theorem dX2_parseMembers_38 : decode cX2_parseMembers 38 = .ok (.ishl, 1) := by decide +kernel
theorem dX2_parseMembers_39 : decode cX2_parseMembers 39 = .ok (.iconst 1, 1) := by decide +kernel
theorem dX2_parseMembers_40 : decode cX2_parseMembers 40 = .ok (.iload_n 2, 1) := by decide +kernel
theorem dX2_parseMembers_41 : decode cX2_parseMembers 41 = .ok (.bipush 48, 2) := by decide +kernel
theorem dX2_parseMembers_43 : decode cX2_parseMembers 43 = .ok (.isub, 1) := by decide +kernel
theorem dX2_parseMembers_44 : decode cX2_parseMembers 44 = .ok (.ishl, 1) := by decide +kernel
theorem dX2_parseMembers_45 : decode cX2_parseMembers 45 = .ok (.ior, 1) := by decide +kernel
theorem dX2_parseMembers_46 : decode cX2_parseMembers 46 = .ok (.istore_n 3, 1) := by decide +kernel
theorem dX2_parseMembers_47 : decode cX2_parseMembers 47 = .ok (.iload_n 2, 1) := by decide +kernel
theorem dX2_parseMembers_48 : decode cX2_parseMembers 48 = .ok (.iconst 1, 1) := by decide +kernel
theorem dX2_parseMembers_49 : decode cX2_parseMembers 49 = .ok (.iadd, 1) := by decide +kernel
theorem dX2_parseMembers_50 : decode cX2_parseMembers 50 = .ok (.istore 4, 2) := by decide +kernel
theorem dX2_parseMembers_52 : decode cX2_parseMembers 52 = .ok (.iload 4, 2) := by decide +kernel
theorem dX2_parseMembers_54 : decode cX2_parseMembers 54 = .ok (.bipush 57, 2) := by decide +kernel
theorem dX2_parseMembers_56 : decode cX2_parseMembers 56 = .ok (.if_icmp .gt 31, 3) := by decide +kernel
theorem dX2_parseMembers_59 : decode cX2_parseMembers 59 = .ok (.aload_n 0, 1) := by decide +kernel
theorem dX2_parseMembers_60 : decode cX2_parseMembers 60 = .ok (.iload 4, 2) := by decide +kernel
theorem dX2_parseMembers_62 : decode cX2_parseMembers 62 = .ok (.iload 4, 2) := by decide +kernel
theorem dX2_parseMembers_64 : decode cX2_parseMembers 64 = .ok (.invokevirtual 42, 3) := by decide +kernel
theorem dX2_parseMembers_67 : decode cX2_parseMembers 67 = .ok (.iconst (-1), 1) := by decide +kernel
theorem dX2_parseMembers_68 : decode cX2_parseMembers 68 = .ok (.if_icmp .eq 13, 3) := by decide +kernel
theorem dX2_parseMembers_71 : decode cX2_parseMembers 71 = .ok (.iload_n 3, 1) := by decide +kernel
theorem dX2_parseMembers_72 : decode cX2_parseMembers 72 = .ok (.iconst 1, 1) := by decide +kernel
theorem dX2_parseMembers_73 : decode cX2_parseMembers 73 = .ok (.iload 4, 2) := by decide +kernel
theorem dX2_parseMembers_75 : decode cX2_parseMembers 75 = .ok (.bipush 48, 2) := by decide +kernel
theorem dX2_parseMembers_77 : decode cX2_parseMembers 77 = .ok (.isub, 1) := by decide +kernel
theorem dX2_parseMembers_78 : decode cX2_parseMembers 78 = .ok (.ishl, 1) := by decide +kernel
theorem dX2_parseMembers_79 : decode cX2_parseMembers 79 = .ok (.ior, 1) := by decide +kernel
theorem dX2_parseMembers_80 : decode cX2_parseMembers 80 = .ok (.istore_n 3, 1) := by decide +kernel
theorem dX2_parseMembers_81 : decode cX2_parseMembers 81 = .ok (.iinc 4 1, 3) := by decide +kernel
theorem dX2_parseMembers_84 : decode cX2_parseMembers 84 = .ok (.goto (-32), 3) := by decide +kernel
theorem dX2_parseMembers_87 : decode cX2_parseMembers 87 = .ok (.aload_n 0, 1) := by decide +kernel
theorem dX2_parseMembers_88 : decode cX2_parseMembers 88 = .ok (.getfield 26, 3) := by decide +kernel
theorem dX2_parseMembers_91 : decode cX2_parseMembers 91 = .ok (.aload_n 0, 1) := by decide +kernel
theorem dX2_parseMembers_92 : decode cX2_parseMembers 92 = .ok (.getfield 35, 3) := by decide +kernel
theorem dX2_parseMembers_95 : decode cX2_parseMembers 95 = .ok (.iload_n 3, 1) := by decide +kernel
theorem dX2_parseMembers_96 : decode cX2_parseMembers 96 = .ok (.iastore, 1) := by decide +kernel
theorem dX2_parseMembers_97 : decode cX2_parseMembers 97 = .ok (.aload_n 0, 1) := by decide +kernel
theorem dX2_parseMembers_98 : decode cX2_parseMembers 98 = .ok (.bipush 58, 2) := by decide +kernel
theorem dX2_parseMembers_100 : decode cX2_parseMembers 100 = .ok (.bipush 58, 2) := by decide +kernel
theorem dX2_parseMembers_102 : decode cX2_parseMembers 102 = .ok (.invokevirtual 42, 3) := by decide +kernel
theorem dX2_parseMembers_105 : decode cX2_parseMembers 105 = .ok (.iconst (-1), 1) := by decide +kernel
theorem dX2_parseMembers_106 : decode cX2_parseMembers 106 = .ok (.if_icmp .eq 7, 3) := by decide +kernel
theorem dX2_parseMembers_109 : decode cX2_parseMembers 109 = .ok (.iconst 1, 1) := by decide +kernel
theorem dX2_parseMembers_110 : decode cX2_parseMembers 110 = .ok (.goto 4, 3) := by decide +kernel
theorem dX2_parseMembers_113 : decode cX2_parseMembers 113 = .ok (.iconst 0, 1) := by decide +kernel
theorem dX2_parseMembers_114 : decode cX2_parseMembers 114 = .ok (.ireturn, 1) := by decide +kernel
theorem dX2_parseNumber_0 : decode cX2_parseNumber 0 = .ok (.aload_n 0, 1) := by decide +kernel
theorem dX2_parseNumber_1 : decode cX2_parseNumber 1 = .ok (.bipush 45, 2) := by decide +kernel
theorem dX2_parseNumber_3 : decode cX2_parseNumber 3 = .ok (.bipush 45, 2) := by decide +kernel
theorem dX2_parseNumber_5 : decode cX2_parseNumber 5 = .ok (.invokevirtual 42, 3) := by decide +kernel
theorem dX2_parseNumber_8 : decode cX2_parseNumber 8 = .ok (.iconst (-1), 1) := by decide +kernel
theorem dX2_parseNumber_9 : decode cX2_parseNumber 9 = .ok (.if_icmp .eq 7, 3) := by decide +kernel
theorem dX2_parseNumber_12 : decode cX2_parseNumber 12 = .ok (.iconst 1, 1) := by decide +kernel
theorem dX2_parseNumber_13 : decode cX2_parseNumber 13 = .ok (.goto 4, 3) := by decide +kernel
theorem dX2_parseNumber_16 : decode cX2_parseNumber 16 = .ok (.iconst 0, 1) := by decide +kernel
theorem dX2_parseNumber_17 : decode cX2_parseNumber 17 = .ok (.istore_n 1, 1) := by decide +kernel
theorem dX2_parseNumber_18 : decode cX2_parseNumber 18 = .ok (.aload_n 0, 1) := by decide +kernel
theorem dX2_parseNumber_19 : decode cX2_parseNumber 19 = .ok (.bipush 48, 2) := by decide +kernel
theorem dX2_parseNumber_21 : decode cX2_parseNumber 21 = .ok (.bipush 57, 2) := by decide +kernel
theorem dX2_parseNumber_23 : decode cX2_parseNumber 23 = .ok (.invokevirtual 42, 3) := by decide +kernel
theorem dX2_parseNumber_26 : decode cX2_parseNumber 26 = .ok (.istore_n 2, 1) := by decide +kernel
theorem dX2_parseNumber_27 : decode cX2_parseNumber 27 = .ok (.iload_n 2, 1) := by decide +kernel
theorem dX2_parseNumber_28 : decode cX2_parseNumber 28 = .ok (.iconst (-1), 1) := by decide +kernel
theorem dX2_parseNumber_29 : decode cX2_parseNumber 29 = .ok (.if_icmp .ne 5, 3) := by decide +kernel
theorem dX2_parseNumber_32 : decode cX2_parseNumber 32 = .ok (.iconst 0, 1) := by decide +kernel
theorem dX2_parseNumber_33 : decode cX2_parseNumber 33 = .ok (.ireturn, 1) := by decide +kernel
theorem dX2_parseNumber_34 : decode cX2_parseNumber 34 = .ok (.iload_n 2, 1) := by decide +kernel
theorem dX2_parseNumber_35 : decode cX2_parseNumber 35 = .ok (.bipush 48, 2) := by decide +kernel
theorem dX2_parseNumber_37 : decode cX2_parseNumber 37 = .ok (.isub, 1) := by decide +kernel
theorem dX2_parseNumber_38 : decode cX2_parseNumber 38 = .ok (.istore_n 3, 1) := by decide +kernel
theorem dX2_parseNumber_39 : decode cX2_parseNumber 39 = .ok (.aload_n 0, 1) := by decide +kernel
theorem dX2_parseNumber_40 : decode cX2_parseNumber 40 = .ok (.bipush 48, 2) := by decide +kernel
theorem dX2_parseNumber_42 : decode cX2_parseNumber 42 = .ok (.bipush 48, 2) := by decide +kernel
theorem dX2_parseNumber_44 : decode cX2_parseNumber 44 = .ok (.bipush 9, 2) := by decide +kernel
theorem dX2_parseNumber_46 : decode cX2_parseNumber 46 = .ok (.bipush 50, 2) := by decide +kernel
theorem dX2_parseNumber_48 : decode cX2_parseNumber 48 = .ok (.bipush 10, 2) := by decide +kernel
theorem dX2_parseNumber_50 : decode cX2_parseNumber 50 = .ok (.iload_n 3, 1) := by decide +kernel
theorem dX2_parseNumber_51 : decode cX2_parseNumber 51 = .ok (.imul, 1) := by decide +kernel
theorem dX2_parseNumber_52 : decode cX2_parseNumber 52 = .ok (.isub, 1) := by decide +kernel
theorem dX2_parseNumber_53 : decode cX2_parseNumber 53 = .ok (.invokestatic 61, 3) := by decide +kernel
theorem dX2_parseNumber_56 : decode cX2_parseNumber 56 = .ok (.iadd, 1) := by decide +kernel
theorem dX2_parseNumber_57 : decode cX2_parseNumber 57 = .ok (.invokevirtual 42, 3) := by decide +kernel
theorem dX2_parseNumber_60 : decode cX2_parseNumber 60 = .ok (.istore 4, 2) := by decide +kernel
theorem dX2_parseNumber_62 : decode cX2_parseNumber 62 = .ok (.iload 4, 2) := by decide +kernel
theorem dX2_parseNumber_64 : decode cX2_parseNumber 64 = .ok (.iconst (-1), 1) := by decide +kernel
theorem dX2_parseNumber_65 : decode cX2_parseNumber 65 = .ok (.if_icmp .eq 14, 3) := by decide +kernel
theorem dX2_parseNumber_68 : decode cX2_parseNumber 68 = .ok (.bipush 10, 2) := by decide +kernel
theorem dX2_parseNumber_70 : decode cX2_parseNumber 70 = .ok (.iload_n 3, 1) := by decide +kernel
theorem dX2_parseNumber_71 : decode cX2_parseNumber 71 = .ok (.imul, 1) := by decide +kernel
theorem dX2_parseNumber_72 : decode cX2_parseNumber 72 = .ok (.iload 4, 2) := by decide +kernel
theorem dX2_parseNumber_74 : decode cX2_parseNumber 74 = .ok (.iadd, 1) := by decide +kernel
theorem dX2_parseNumber_75 : decode cX2_parseNumber 75 = .ok (.bipush 48, 2) := by decide +kernel
theorem dX2_parseNumber_77 : decode cX2_parseNumber 77 = .ok (.isub, 1) := by decide +kernel
theorem dX2_parseNumber_78 : decode cX2_parseNumber 78 = .ok (.istore_n 3, 1) := by decide +kernel
theorem dX2_parseNumber_79 : decode cX2_parseNumber 79 = .ok (.aload_n 0, 1) := by decide +kernel
theorem dX2_parseNumber_80 : decode cX2_parseNumber 80 = .ok (.getfield 29, 3) := by decide +kernel
theorem dX2_parseNumber_83 : decode cX2_parseNumber 83 = .ok (.aload_n 0, 1) := by decide +kernel
theorem dX2_parseNumber_84 : decode cX2_parseNumber 84 = .ok (.getfield 35, 3) := by decide +kernel
theorem dX2_parseNumber_87 : decode cX2_parseNumber 87 = .ok (.iload_n 1, 1) := by decide +kernel
theorem dX2_parseNumber_88 : decode cX2_parseNumber 88 = .ok (.ifCond .eq 8, 3) := by decide +kernel
theorem dX2_parseNumber_91 : decode cX2_parseNumber 91 = .ok (.iload_n 3, 1) := by decide +kernel
theorem dX2_parseNumber_92 : decode cX2_parseNumber 92 = .ok (.ineg, 1) := by decide +kernel
theorem dX2_parseNumber_93 : decode cX2_parseNumber 93 = .ok (.goto 4, 3) := by decide +kernel
theorem dX2_parseNumber_96 : decode cX2_parseNumber 96 = .ok (.iload_n 3, 1) := by decide +kernel
theorem dX2_parseNumber_97 : decode cX2_parseNumber 97 = .ok (.iastore, 1) := by decide +kernel
theorem dX2_parseNumber_98 : decode cX2_parseNumber 98 = .ok (.aload_n 0, 1) := by decide +kernel
theorem dX2_parseNumber_99 : decode cX2_parseNumber 99 = .ok (.bipush 42, 2) := by decide +kernel
theorem dX2_parseNumber_101 : decode cX2_parseNumber 101 = .ok (.bipush 42, 2) := by decide +kernel
theorem dX2_parseNumber_103 : decode cX2_parseNumber 103 = .ok (.invokevirtual 42, 3) := by decide +kernel
theorem dX2_parseNumber_106 : decode cX2_parseNumber 106 = .ok (.iconst (-1), 1) := by decide +kernel
theorem dX2_parseNumber_107 : decode cX2_parseNumber 107 = .ok (.if_icmp .eq 7, 3) := by decide +kernel
theorem dX2_parseNumber_110 : decode cX2_parseNumber 110 = .ok (.iconst 1, 1) := by decide +kernel
theorem dX2_parseNumber_111 : decode cX2_parseNumber 111 = .ok (.goto 4, 3) := by decide +kernel
theorem dX2_parseNumber_114 : decode cX2_parseNumber 114 = .ok (.iconst 0, 1) := by decide +kernel
theorem dX2_parseNumber_115 : decode cX2_parseNumber 115 = .ok (.ireturn, 1) := by decide +kernel
theorem dX2_parseWeight_0 : decode cX2_parseWeight 0 = .ok (.aload_n 0, 1) := by decide +kernel
theorem dX2_parseWeight_1 : decode cX2_parseWeight 1 = .ok (.bipush 49, 2) := by decide +kernel
theorem dX2_parseWeight_3 : decode cX2_parseWeight 3 = .ok (.bipush 57, 2) := by decide +kernel
theorem dX2_parseWeight_5 : decode cX2_parseWeight 5 = .ok (.invokevirtual 42, 3) := by decide +kernel
theorem dX2_parseWeight_8 : decode cX2_parseWeight 8 = .ok (.istore_n 1, 1) := by decide +kernel
theorem dX2_parseWeight_9 : decode cX2_parseWeight 9 = .ok (.aload_n 0, 1) := by decide +kernel
theorem dX2_parseWeight_10 : decode cX2_parseWeight 10 = .ok (.getfield 32, 3) := by decide +kernel
theorem dX2_parseWeight_13 : decode cX2_parseWeight 13 = .ok (.aload_n 0, 1) := by decide +kernel
theorem dX2_parseWeight_14 : decode cX2_parseWeight 14 = .ok (.getfield 35, 3) := by decide +kernel
theorem dX2_parseWeight_17 : decode cX2_parseWeight 17 = .ok (.iload_n 1, 1) := by decide +kernel
theorem dX2_parseWeight_18 : decode cX2_parseWeight 18 = .ok (.bipush 48, 2) := by decide +kernel
theorem dX2_parseWeight_20 : decode cX2_parseWeight 20 = .ok (.isub, 1) := by decide +kernel
theorem dX2_parseWeight_21 : decode cX2_parseWeight 21 = .ok (.iastore, 1) := by decide +kernel
theorem dX2_parseWeight_22 : decode cX2_parseWeight 22 = .ok (.iload_n 1, 1) := by decide +kernel
theorem dX2_parseWeight_23 : decode cX2_parseWeight 23 = .ok (.iconst (-1), 1) := by decide +kernel
theorem dX2_parseWeight_24 : decode cX2_parseWeight 24 = .ok (.if_icmp .eq 7, 3) := by decide +kernel
theorem dX2_parseWeight_27 : decode cX2_parseWeight 27 = .ok (.iconst 1, 1) := by decide +kernel
theorem dX2_parseWeight_28 : decode cX2_parseWeight 28 = .ok (.goto 4, 3) := by decide +kernel
theorem dX2_parseWeight_31 : decode cX2_parseWeight 31 = .ok (.iconst 0, 1) := by decide +kernel
theorem dX2_parseWeight_32 : decode cX2_parseWeight 32 = .ok (.ireturn, 1) := by decide +kernel
theorem dX2_fits_0 : decode cX2_fits 0 = .ok (.aload_n 1, 1) := by decide +kernel
theorem dX2_fits_1 : decode cX2_fits 1 = .ok (.getfield 66, 3) := by decide +kernel
theorem dX2_fits_4 : decode cX2_fits 4 = .ok (.istore_n 2, 1) := by decide +kernel
theorem dX2_fits_5 : decode cX2_fits 5 = .ok (.aload_n 1, 1) := by decide +kernel
theorem dX2_fits_6 : decode cX2_fits 6 = .ok (.getfield 71, 3) := by decide +kernel
theorem dX2_fits_9 : decode cX2_fits 9 = .ok (.istore_n 3, 1) := by decide +kernel
theorem dX2_fits_10 : decode cX2_fits 10 = .ok (.iconst 0, 1) := by decide +kernel
theorem dX2_fits_11 : decode cX2_fits 11 = .ok (.istore 4, 2) := by decide +kernel
theorem dX2_fits_13 : decode cX2_fits 13 = .ok (.iload 4, 2) := by decide +kernel
theorem dX2_fits_15 : decode cX2_fits 15 = .ok (.aload_n 0, 1) := by decide +kernel
theorem dX2_fits_16 : decode cX2_fits 16 = .ok (.getfield 35, 3) := by decide +kernel
theorem dX2_fits_19 : decode cX2_fits 19 = .ok (.if_icmp .ge 48, 3) := by decide +kernel
theorem dX2_fits_22 : decode cX2_fits 22 = .ok (.aload_n 0, 1) := by decide +kernel
theorem dX2_fits_23 : decode cX2_fits 23 = .ok (.getfield 22, 3) := by decide +kernel
theorem dX2_fits_26 : decode cX2_fits 26 = .ok (.iload 4, 2) := by decide +kernel
theorem dX2_fits_28 : decode cX2_fits 28 = .ok (.iaload, 1) := by decide +kernel
theorem dX2_fits_29 : decode cX2_fits 29 = .ok (.iconst (-1), 1) := by decide +kernel
theorem dX2_fits_30 : decode cX2_fits 30 = .ok (.if_icmp .ne 9, 3) := by decide +kernel
theorem dX2_fits_33 : decode cX2_fits 33 = .ok (.iinc 2 1, 3) := by decide +kernel
theorem dX2_fits_36 : decode cX2_fits 36 = .ok (.goto 25, 3) := by decide +kernel
theorem dX2_fits_39 : decode cX2_fits 39 = .ok (.aload_n 0, 1) := by decide +kernel
theorem dX2_fits_40 : decode cX2_fits 40 = .ok (.getfield 26, 3) := by decide +kernel
theorem dX2_fits_43 : decode cX2_fits 43 = .ok (.iload 4, 2) := by decide +kernel
theorem dX2_fits_45 : decode cX2_fits 45 = .ok (.iaload, 1) := by decide +kernel
theorem dX2_fits_46 : decode cX2_fits 46 = .ok (.iload_n 2, 1) := by decide +kernel
theorem dX2_fits_47 : decode cX2_fits 47 = .ok (.invokestatic 74, 3) := by decide +kernel
theorem dX2_fits_50 : decode cX2_fits 50 = .ok (.ifCond .eq 9, 3) := by decide +kernel
theorem dX2_fits_53 : decode cX2_fits 53 = .ok (.iinc 3 1, 3) := by decide +kernel
theorem dX2_fits_56 : decode cX2_fits 56 = .ok (.goto 5, 3) := by decide +kernel
theorem dX2_fits_59 : decode cX2_fits 59 = .ok (.iconst 0, 1) := by decide +kernel
theorem dX2_fits_60 : decode cX2_fits 60 = .ok (.ireturn, 1) := by decide +kernel
theorem dX2_fits_61 : decode cX2_fits 61 = .ok (.iinc 4 1, 3) := by decide +kernel
theorem dX2_fits_64 : decode cX2_fits 64 = .ok (.goto (-51), 3) := by decide +kernel
theorem dX2_fits_67 : decode cX2_fits 67 = .ok (.iload_n 2, 1) := by decide +kernel
theorem dX2_fits_68 : decode cX2_fits 68 = .ok (.bipush 10, 2) := by decide +kernel
theorem dX2_fits_70 : decode cX2_fits 70 = .ok (.if_icmp .gt 13, 3) := by decide +kernel
theorem dX2_fits_73 : decode cX2_fits 73 = .ok (.iload_n 3, 1) := by decide +kernel
theorem dX2_fits_74 : decode cX2_fits 74 = .ok (.bipush 20, 2) := by decide +kernel
theorem dX2_fits_76 : decode cX2_fits 76 = .ok (.if_icmp .gt 7, 3) := by decide +kernel
theorem dX2_fits_79 : decode cX2_fits 79 = .ok (.iconst 1, 1) := by decide +kernel
theorem dX2_fits_80 : decode cX2_fits 80 = .ok (.goto 4, 3) := by decide +kernel
theorem dX2_fits_83 : decode cX2_fits 83 = .ok (.iconst 0, 1) := by decide +kernel
theorem dX2_fits_84 : decode cX2_fits 84 = .ok (.ireturn, 1) := by decide +kernel
theorem dX2_addTo_0 : decode cX2_addTo 0 = .ok (.iconst 0, 1) := by decide +kernel
theorem dX2_addTo_1 : decode cX2_addTo 1 = .ok (.istore_n 2, 1) := by decide +kernel
theorem dX2_addTo_2 : decode cX2_addTo 2 = .ok (.iload_n 2, 1) := by decide +kernel
theorem dX2_addTo_3 : decode cX2_addTo 3 = .ok (.aload_n 0, 1) := by decide +kernel
theorem dX2_addTo_4 : decode cX2_addTo 4 = .ok (.getfield 35, 3) := by decide +kernel
theorem dX2_addTo_7 : decode cX2_addTo 7 = .ok (.if_icmp .ge 60, 3) := by decide +kernel
theorem dX2_addTo_10 : decode cX2_addTo 10 = .ok (.aload_n 0, 1) := by decide +kernel
theorem dX2_addTo_11 : decode cX2_addTo 11 = .ok (.getfield 22, 3) := by decide +kernel
theorem dX2_addTo_14 : decode cX2_addTo 14 = .ok (.iload_n 2, 1) := by decide +kernel
theorem dX2_addTo_15 : decode cX2_addTo 15 = .ok (.iaload, 1) := by decide +kernel
theorem dX2_addTo_16 : decode cX2_addTo 16 = .ok (.iconst (-1), 1) := by decide +kernel
theorem dX2_addTo_17 : decode cX2_addTo 17 = .ok (.if_icmp .ne 16, 3) := by decide +kernel
theorem dX2_addTo_20 : decode cX2_addTo 20 = .ok (.aload_n 1, 1) := by decide +kernel
theorem dX2_addTo_21 : decode cX2_addTo 21 = .ok (.aload_n 0, 1) := by decide +kernel
theorem dX2_addTo_22 : decode cX2_addTo 22 = .ok (.getfield 29, 3) := by decide +kernel
theorem dX2_addTo_25 : decode cX2_addTo 25 = .ok (.iload_n 2, 1) := by decide +kernel
theorem dX2_addTo_26 : decode cX2_addTo 26 = .ok (.iaload, 1) := by decide +kernel
theorem dX2_addTo_27 : decode cX2_addTo 27 = .ok (.invokevirtual 78, 3) := by decide +kernel
theorem dX2_addTo_30 : decode cX2_addTo 30 = .ok (.goto 31, 3) := by decide +kernel
theorem dX2_addTo_33 : decode cX2_addTo 33 = .ok (.aload_n 1, 1) := by decide +kernel
theorem dX2_addTo_34 : decode cX2_addTo 34 = .ok (.aload_n 0, 1) := by decide +kernel
theorem dX2_addTo_35 : decode cX2_addTo 35 = .ok (.getfield 22, 3) := by decide +kernel
theorem dX2_addTo_38 : decode cX2_addTo 38 = .ok (.iload_n 2, 1) := by decide +kernel
theorem dX2_addTo_39 : decode cX2_addTo 39 = .ok (.iaload, 1) := by decide +kernel
theorem dX2_addTo_40 : decode cX2_addTo 40 = .ok (.aload_n 0, 1) := by decide +kernel
theorem dX2_addTo_41 : decode cX2_addTo 41 = .ok (.getfield 26, 3) := by decide +kernel
theorem dX2_addTo_44 : decode cX2_addTo 44 = .ok (.iload_n 2, 1) := by decide +kernel
theorem dX2_addTo_45 : decode cX2_addTo 45 = .ok (.iaload, 1) := by decide +kernel
theorem dX2_addTo_46 : decode cX2_addTo 46 = .ok (.aload_n 0, 1) := by decide +kernel
theorem dX2_addTo_47 : decode cX2_addTo 47 = .ok (.getfield 29, 3) := by decide +kernel
theorem dX2_addTo_50 : decode cX2_addTo 50 = .ok (.iload_n 2, 1) := by decide +kernel
theorem dX2_addTo_51 : decode cX2_addTo 51 = .ok (.iaload, 1) := by decide +kernel
theorem dX2_addTo_52 : decode cX2_addTo 52 = .ok (.aload_n 0, 1) := by decide +kernel
theorem dX2_addTo_53 : decode cX2_addTo 53 = .ok (.getfield 32, 3) := by decide +kernel
theorem dX2_addTo_56 : decode cX2_addTo 56 = .ok (.iload_n 2, 1) := by decide +kernel
theorem dX2_addTo_57 : decode cX2_addTo 57 = .ok (.iaload, 1) := by decide +kernel
theorem dX2_addTo_58 : decode cX2_addTo 58 = .ok (.invokevirtual 82, 3) := by decide +kernel
theorem dX2_addTo_61 : decode cX2_addTo 61 = .ok (.iinc 2 1, 3) := by decide +kernel
theorem dX2_addTo_64 : decode cX2_addTo 64 = .ok (.goto (-62), 3) := by decide +kernel
theorem dX2_addTo_67 : decode cX2_addTo 67 = .ok (.return_, 1) := by decide +kernel
theorem dX3_init_0 : decode cX3_init 0 = .ok (.aload_n 0, 1) := by decide +kernel
theorem dX3_init_1 : decode cX3_init 1 = .ok (.invokespecial 3, 3) := by decide +kernel
theorem dX3_init_4 : decode cX3_init 4 = .ok (.aload_n 0, 1) := by decide +kernel
theorem dX3_init_5 : decode cX3_init 5 = .ok (.iconst 4, 1) := by decide +kernel
theorem dX3_init_6 : decode cX3_init 6 = .ok (.sipush 375, 3) := by decide +kernel
theorem dX3_init_9 : decode cX3_init 9 = .ok (.multianewarray 9 2, 4) := by decide +kernel
theorem dX3_init_13 : decode cX3_init 13 = .ok (.putfield 11, 3) := by decide +kernel
theorem dX3_init_16 : decode cX3_init 16 = .ok (.aload_n 0, 1) := by decide +kernel
theorem dX3_init_17 : decode cX3_init 17 = .ok (.iconst 0, 1) := by decide +kernel
theorem dX3_init_18 : decode cX3_init 18 = .ok (.putfield 16, 3) := by decide +kernel
theorem dX3_init_21 : decode cX3_init 21 = .ok (.return_, 1) := by decide +kernel
theorem dX3_fill_0 : decode cX3_fill 0 = .ok (.aload_n 0, 1) := by decide +kernel
theorem dX3_fill_1 : decode cX3_fill 1 = .ok (.iconst 0, 1) := by decide +kernel
theorem dX3_fill_2 : decode cX3_fill 2 = .ok (.putfield 16, 3) := by decide +kernel
theorem dX3_fill_5 : decode cX3_fill 5 = .ok (.iload_n 2, 1) := by decide +kernel
theorem dX3_fill_6 : decode cX3_fill 6 = .ok (.iconst 0, 1) := by decide +kernel
theorem dX3_fill_7 : decode cX3_fill 7 = .ok (.ishr, 1) := by decide +kernel
theorem dX3_fill_8 : decode cX3_fill 8 = .ok (.iconst 1, 1) := by decide +kernel
theorem dX3_fill_9 : decode cX3_fill 9 = .ok (.iand, 1) := by decide +kernel
theorem dX3_fill_10 : decode cX3_fill 10 = .ok (.ifCond .eq 8, 3) := by decide +kernel
theorem dX3_fill_13 : decode cX3_fill 13 = .ok (.aload_n 0, 1) := by decide +kernel
theorem dX3_fill_14 : decode cX3_fill 14 = .ok (.aload_n 1, 1) := by decide +kernel
theorem dX3_fill_15 : decode cX3_fill 15 = .ok (.invokevirtual 20, 3) := by decide +kernel
theorem dX3_fill_18 : decode cX3_fill 18 = .ok (.iload_n 2, 1) := by decide +kernel
theorem dX3_fill_19 : decode cX3_fill 19 = .ok (.iconst 1, 1) := by decide +kernel
theorem dX3_fill_20 : decode cX3_fill 20 = .ok (.ishr, 1) := by decide +kernel
theorem dX3_fill_21 : decode cX3_fill 21 = .ok (.iconst 1, 1) := by decide +kernel
theorem dX3_fill_22 : decode cX3_fill 22 = .ok (.iand, 1) := by decide +kernel
theorem dX3_fill_23 : decode cX3_fill 23 = .ok (.ifCond .eq 8, 3) := by decide +kernel
theorem dX3_fill_26 : decode cX3_fill 26 = .ok (.aload_n 0, 1) := by decide +kernel
theorem dX3_fill_27 : decode cX3_fill 27 = .ok (.aload_n 1, 1) := by decide +kernel
theorem dX3_fill_28 : decode cX3_fill 28 = .ok (.invokevirtual 24, 3) := by decide +kernel
theorem dX3_fill_31 : decode cX3_fill 31 = .ok (.iload_n 2, 1) := by decide +kernel
theorem dX3_fill_32 : decode cX3_fill 32 = .ok (.iconst 2, 1) := by decide +kernel
theorem dX3_fill_33 : decode cX3_fill 33 = .ok (.ishr, 1) := by decide +kernel
theorem dX3_fill_34 : decode cX3_fill 34 = .ok (.iconst 1, 1) := by decide +kernel
theorem dX3_fill_35 : decode cX3_fill 35 = .ok (.iand, 1) := by decide +kernel
theorem dX3_fill_36 : decode cX3_fill 36 = .ok (.ifCond .eq 8, 3) := by decide +kernel
theorem dX3_fill_39 : decode cX3_fill 39 = .ok (.aload_n 0, 1) := by decide +kernel
theorem dX3_fill_40 : decode cX3_fill 40 = .ok (.aload_n 1, 1) := by decide +kernel
theorem dX3_fill_41 : decode cX3_fill 41 = .ok (.invokevirtual 27, 3) := by decide +kernel
theorem dX3_fill_44 : decode cX3_fill 44 = .ok (.iload_n 2, 1) := by decide +kernel
theorem dX3_fill_45 : decode cX3_fill 45 = .ok (.iconst 3, 1) := by decide +kernel
theorem dX3_fill_46 : decode cX3_fill 46 = .ok (.ishr, 1) := by decide +kernel
theorem dX3_fill_47 : decode cX3_fill 47 = .ok (.iconst 1, 1) := by decide +kernel
theorem dX3_fill_48 : decode cX3_fill 48 = .ok (.iand, 1) := by decide +kernel
theorem dX3_fill_49 : decode cX3_fill 49 = .ok (.ifCond .eq 8, 3) := by decide +kernel
theorem dX3_fill_52 : decode cX3_fill 52 = .ok (.aload_n 0, 1) := by decide +kernel
theorem dX3_fill_53 : decode cX3_fill 53 = .ok (.aload_n 1, 1) := by decide +kernel
theorem dX3_fill_54 : decode cX3_fill 54 = .ok (.invokevirtual 30, 3) := by decide +kernel
theorem dX3_fill_57 : decode cX3_fill 57 = .ok (.return_, 1) := by decide +kernel
theorem dX3_put_0 : decode cX3_put 0 = .ok (.aload_n 0, 1) := by decide +kernel
theorem dX3_put_1 : decode cX3_put 1 = .ok (.getfield 16, 3) := by decide +kernel
theorem dX3_put_4 : decode cX3_put 4 = .ok (.sipush 375, 3) := by decide +kernel
theorem dX3_put_7 : decode cX3_put 7 = .ok (.if_icmp .ge 62, 3) := by decide +kernel
theorem dX3_put_10 : decode cX3_put 10 = .ok (.aload_n 0, 1) := by decide +kernel
theorem dX3_put_11 : decode cX3_put 11 = .ok (.getfield 11, 3) := by decide +kernel
theorem dX3_put_14 : decode cX3_put 14 = .ok (.iconst 0, 1) := by decide +kernel
theorem dX3_put_15 : decode cX3_put 15 = .ok (.aaload, 1) := by decide +kernel
theorem dX3_put_16 : decode cX3_put 16 = .ok (.aload_n 0, 1) := by decide +kernel
theorem dX3_put_17 : decode cX3_put 17 = .ok (.getfield 16, 3) := by decide +kernel
theorem dX3_put_20 : decode cX3_put 20 = .ok (.iload_n 1, 1) := by decide +kernel
theorem dX3_put_21 : decode cX3_put 21 = .ok (.iastore, 1) := by decide +kernel
theorem dX3_put_22 : decode cX3_put 22 = .ok (.aload_n 0, 1) := by decide +kernel
theorem dX3_put_23 : decode cX3_put 23 = .ok (.getfield 11, 3) := by decide +kernel
theorem dX3_put_26 : decode cX3_put 26 = .ok (.iconst 1, 1) := by decide +kernel
theorem dX3_put_27 : decode cX3_put 27 = .ok (.aaload, 1) := by decide +kernel
theorem dX3_put_28 : decode cX3_put 28 = .ok (.aload_n 0, 1) := by decide +kernel
theorem dX3_put_29 : decode cX3_put 29 = .ok (.getfield 16, 3) := by decide +kernel
theorem dX3_put_32 : decode cX3_put 32 = .ok (.iload_n 2, 1) := by decide +kernel
theorem dX3_put_33 : decode cX3_put 33 = .ok (.iastore, 1) := by decide +kernel
theorem dX3_put_34 : decode cX3_put 34 = .ok (.aload_n 0, 1) := by decide +kernel
theorem dX3_put_35 : decode cX3_put 35 = .ok (.getfield 11, 3) := by decide +kernel
theorem dX3_put_38 : decode cX3_put 38 = .ok (.iconst 2, 1) := by decide +kernel
theorem dX3_put_39 : decode cX3_put 39 = .ok (.aaload, 1) := by decide +kernel
theorem dX3_put_40 : decode cX3_put 40 = .ok (.aload_n 0, 1) := by decide +kernel
theorem dX3_put_41 : decode cX3_put 41 = .ok (.getfield 16, 3) := by decide +kernel
theorem dX3_put_44 : decode cX3_put 44 = .ok (.iload_n 3, 1) := by decide +kernel
theorem dX3_put_45 : decode cX3_put 45 = .ok (.iastore, 1) := by decide +kernel
theorem dX3_put_46 : decode cX3_put 46 = .ok (.aload_n 0, 1) := by decide +kernel
theorem dX3_put_47 : decode cX3_put 47 = .ok (.getfield 11, 3) := by decide +kernel
theorem dX3_put_50 : decode cX3_put 50 = .ok (.iconst 3, 1) := by decide +kernel
theorem dX3_put_51 : decode cX3_put 51 = .ok (.aaload, 1) := by decide +kernel
theorem dX3_put_52 : decode cX3_put 52 = .ok (.aload_n 0, 1) := by decide +kernel
theorem dX3_put_53 : decode cX3_put 53 = .ok (.getfield 16, 3) := by decide +kernel
theorem dX3_put_56 : decode cX3_put 56 = .ok (.iload 4, 2) := by decide +kernel
theorem dX3_put_58 : decode cX3_put 58 = .ok (.iastore, 1) := by decide +kernel
theorem dX3_put_59 : decode cX3_put 59 = .ok (.aload_n 0, 1) := by decide +kernel
theorem dX3_put_60 : decode cX3_put 60 = .ok (.dup, 1) := by decide +kernel
theorem dX3_put_61 : decode cX3_put 61 = .ok (.getfield 16, 3) := by decide +kernel
theorem dX3_put_64 : decode cX3_put 64 = .ok (.iconst 1, 1) := by decide +kernel
theorem dX3_put_65 : decode cX3_put 65 = .ok (.iadd, 1) := by decide +kernel
theorem dX3_put_66 : decode cX3_put 66 = .ok (.putfield 16, 3) := by decide +kernel
theorem dX3_put_69 : decode cX3_put 69 = .ok (.return_, 1) := by decide +kernel
theorem dX3_putSets_0 : decode cX3_putSets 0 = .ok (.iconst 0, 1) := by decide +kernel
theorem dX3_putSets_1 : decode cX3_putSets 1 = .ok (.istore_n 2, 1) := by decide +kernel
theorem dX3_putSets_2 : decode cX3_putSets 2 = .ok (.iload_n 2, 1) := by decide +kernel
theorem dX3_putSets_3 : decode cX3_putSets 3 = .ok (.aload_n 1, 1) := by decide +kernel
theorem dX3_putSets_4 : decode cX3_putSets 4 = .ok (.getfield 33, 3) := by decide +kernel
theorem dX3_putSets_7 : decode cX3_putSets 7 = .ok (.if_icmp .ge 45, 3) := by decide +kernel
theorem dX3_putSets_10 : decode cX3_putSets 10 = .ok (.iconst 0, 1) := by decide +kernel
theorem dX3_putSets_11 : decode cX3_putSets 11 = .ok (.istore_n 3, 1) := by decide +kernel
theorem dX3_putSets_12 : decode cX3_putSets 12 = .ok (.iload_n 3, 1) := by decide +kernel
theorem dX3_putSets_13 : decode cX3_putSets 13 = .ok (.aload_n 1, 1) := by decide +kernel
theorem dX3_putSets_14 : decode cX3_putSets 14 = .ok (.getfield 38, 3) := by decide +kernel
theorem dX3_putSets_17 : decode cX3_putSets 17 = .ok (.iload_n 2, 1) := by decide +kernel
theorem dX3_putSets_18 : decode cX3_putSets 18 = .ok (.iaload, 1) := by decide +kernel
theorem dX3_putSets_19 : decode cX3_putSets 19 = .ok (.if_icmp .ge 27, 3) := by decide +kernel
theorem dX3_putSets_22 : decode cX3_putSets 22 = .ok (.iload_n 3, 1) := by decide +kernel
theorem dX3_putSets_23 : decode cX3_putSets 23 = .ok (.aload_n 1, 1) := by decide +kernel
theorem dX3_putSets_24 : decode cX3_putSets 24 = .ok (.getfield 42, 3) := by decide +kernel
theorem dX3_putSets_27 : decode cX3_putSets 27 = .ok (.iload_n 2, 1) := by decide +kernel
theorem dX3_putSets_28 : decode cX3_putSets 28 = .ok (.iaload, 1) := by decide +kernel
theorem dX3_putSets_29 : decode cX3_putSets 29 = .ok (.if_icmp .eq 11, 3) := by decide +kernel
theorem dX3_putSets_32 : decode cX3_putSets 32 = .ok (.aload_n 0, 1) := by decide +kernel
theorem dX3_putSets_33 : decode cX3_putSets 33 = .ok (.iconst 0, 1) := by decide +kernel
theorem dX3_putSets_34 : decode cX3_putSets 34 = .ok (.iload_n 2, 1) := by decide +kernel
theorem dX3_putSets_35 : decode cX3_putSets 35 = .ok (.iload_n 3, 1) := by decide +kernel
theorem dX3_putSets_36 : decode cX3_putSets 36 = .ok (.iconst (-1), 1) := by decide +kernel
theorem dX3_putSets_37 : decode cX3_putSets 37 = .ok (.invokevirtual 45, 3) := by decide +kernel
theorem dX3_putSets_40 : decode cX3_putSets 40 = .ok (.iinc 3 1, 3) := by decide +kernel
theorem dX3_putSets_43 : decode cX3_putSets 43 = .ok (.goto (-31), 3) := by decide +kernel
theorem dX3_putSets_46 : decode cX3_putSets 46 = .ok (.iinc 2 1, 3) := by decide +kernel
theorem dX3_putSets_49 : decode cX3_putSets 49 = .ok (.goto (-47), 3) := by decide +kernel
theorem dX3_putSets_52 : decode cX3_putSets 52 = .ok (.return_, 1) := by decide +kernel
theorem dX3_putSwaps_0 : decode cX3_putSwaps 0 = .ok (.iconst 0, 1) := by decide +kernel
theorem dX3_putSwaps_1 : decode cX3_putSwaps 1 = .ok (.istore_n 2, 1) := by decide +kernel
theorem dX3_putSwaps_2 : decode cX3_putSwaps 2 = .ok (.iload_n 2, 1) := by decide +kernel
theorem dX3_putSwaps_3 : decode cX3_putSwaps 3 = .ok (.aload_n 1, 1) := by decide +kernel
theorem dX3_putSwaps_4 : decode cX3_putSwaps 4 = .ok (.getfield 33, 3) := by decide +kernel
theorem dX3_putSwaps_7 : decode cX3_putSwaps 7 = .ok (.if_icmp .ge 68, 3) := by decide +kernel
theorem dX3_putSwaps_10 : decode cX3_putSwaps 10 = .ok (.iload_n 2, 1) := by decide +kernel
theorem dX3_putSwaps_11 : decode cX3_putSwaps 11 = .ok (.iconst 1, 1) := by decide +kernel
theorem dX3_putSwaps_12 : decode cX3_putSwaps 12 = .ok (.iadd, 1) := by decide +kernel
theorem dX3_putSwaps_13 : decode cX3_putSwaps 13 = .ok (.istore_n 3, 1) := by decide +kernel
theorem dX3_putSwaps_14 : decode cX3_putSwaps 14 = .ok (.iload_n 3, 1) := by decide +kernel
theorem dX3_putSwaps_15 : decode cX3_putSwaps 15 = .ok (.aload_n 1, 1) := by decide +kernel
theorem dX3_putSwaps_16 : decode cX3_putSwaps 16 = .ok (.getfield 33, 3) := by decide +kernel
theorem dX3_putSwaps_19 : decode cX3_putSwaps 19 = .ok (.if_icmp .ge 50, 3) := by decide +kernel
theorem dX3_putSwaps_22 : decode cX3_putSwaps 22 = .ok (.aload_n 1, 1) := by decide +kernel
theorem dX3_putSwaps_23 : decode cX3_putSwaps 23 = .ok (.getfield 42, 3) := by decide +kernel
theorem dX3_putSwaps_26 : decode cX3_putSwaps 26 = .ok (.iload_n 2, 1) := by decide +kernel
theorem dX3_putSwaps_27 : decode cX3_putSwaps 27 = .ok (.iaload, 1) := by decide +kernel
theorem dX3_putSwaps_28 : decode cX3_putSwaps 28 = .ok (.aload_n 1, 1) := by decide +kernel
theorem dX3_putSwaps_29 : decode cX3_putSwaps 29 = .ok (.getfield 42, 3) := by decide +kernel
theorem dX3_putSwaps_32 : decode cX3_putSwaps 32 = .ok (.iload_n 3, 1) := by decide +kernel
theorem dX3_putSwaps_33 : decode cX3_putSwaps 33 = .ok (.iaload, 1) := by decide +kernel
theorem dX3_putSwaps_34 : decode cX3_putSwaps 34 = .ok (.if_icmp .eq 29, 3) := by decide +kernel
theorem dX3_putSwaps_37 : decode cX3_putSwaps 37 = .ok (.aload_n 1, 1) := by decide +kernel
theorem dX3_putSwaps_38 : decode cX3_putSwaps 38 = .ok (.iload_n 2, 1) := by decide +kernel
theorem dX3_putSwaps_39 : decode cX3_putSwaps 39 = .ok (.iload_n 3, 1) := by decide +kernel
theorem dX3_putSwaps_40 : decode cX3_putSwaps 40 = .ok (.invokestatic 49, 3) := by decide +kernel
theorem dX3_putSwaps_43 : decode cX3_putSwaps 43 = .ok (.ifCond .eq 20, 3) := by decide +kernel
theorem dX3_putSwaps_46 : decode cX3_putSwaps 46 = .ok (.aload_n 1, 1) := by decide +kernel
theorem dX3_putSwaps_47 : decode cX3_putSwaps 47 = .ok (.iload_n 3, 1) := by decide +kernel
theorem dX3_putSwaps_48 : decode cX3_putSwaps 48 = .ok (.iload_n 2, 1) := by decide +kernel
theorem dX3_putSwaps_49 : decode cX3_putSwaps 49 = .ok (.invokestatic 49, 3) := by decide +kernel
theorem dX3_putSwaps_52 : decode cX3_putSwaps 52 = .ok (.ifCond .eq 11, 3) := by decide +kernel
theorem dX3_putSwaps_55 : decode cX3_putSwaps 55 = .ok (.aload_n 0, 1) := by decide +kernel
theorem dX3_putSwaps_56 : decode cX3_putSwaps 56 = .ok (.iconst 1, 1) := by decide +kernel
theorem dX3_putSwaps_57 : decode cX3_putSwaps 57 = .ok (.iload_n 2, 1) := by decide +kernel
theorem dX3_putSwaps_58 : decode cX3_putSwaps 58 = .ok (.iload_n 3, 1) := by decide +kernel
theorem dX3_putSwaps_59 : decode cX3_putSwaps 59 = .ok (.iconst (-1), 1) := by decide +kernel
theorem dX3_putSwaps_60 : decode cX3_putSwaps 60 = .ok (.invokevirtual 45, 3) := by decide +kernel
theorem dX3_putSwaps_63 : decode cX3_putSwaps 63 = .ok (.iinc 3 1, 3) := by decide +kernel
theorem dX3_putSwaps_66 : decode cX3_putSwaps 66 = .ok (.goto (-52), 3) := by decide +kernel
theorem dX3_putSwaps_69 : decode cX3_putSwaps 69 = .ok (.iinc 2 1, 3) := by decide +kernel
theorem dX3_putSwaps_72 : decode cX3_putSwaps 72 = .ok (.goto (-70), 3) := by decide +kernel
theorem dX3_putSwaps_75 : decode cX3_putSwaps 75 = .ok (.return_, 1) := by decide +kernel
theorem dX3_putShifts_0 : decode cX3_putShifts 0 = .ok (.iconst 0, 1) := by decide +kernel
theorem dX3_putShifts_1 : decode cX3_putShifts 1 = .ok (.istore_n 2, 1) := by decide +kernel
theorem dX3_putShifts_2 : decode cX3_putShifts 2 = .ok (.iload_n 2, 1) := by decide +kernel
theorem dX3_putShifts_3 : decode cX3_putShifts 3 = .ok (.aload_n 1, 1) := by decide +kernel
theorem dX3_putShifts_4 : decode cX3_putShifts 4 = .ok (.getfield 33, 3) := by decide +kernel
theorem dX3_putShifts_7 : decode cX3_putShifts 7 = .ok (.if_icmp .ge 25, 3) := by decide +kernel
theorem dX3_putShifts_10 : decode cX3_putShifts 10 = .ok (.aload_n 0, 1) := by decide +kernel
theorem dX3_putShifts_11 : decode cX3_putShifts 11 = .ok (.iconst 2, 1) := by decide +kernel
theorem dX3_putShifts_12 : decode cX3_putShifts 12 = .ok (.iload_n 2, 1) := by decide +kernel
theorem dX3_putShifts_13 : decode cX3_putShifts 13 = .ok (.iconst 0, 1) := by decide +kernel
theorem dX3_putShifts_14 : decode cX3_putShifts 14 = .ok (.iconst (-1), 1) := by decide +kernel
theorem dX3_putShifts_15 : decode cX3_putShifts 15 = .ok (.invokevirtual 45, 3) := by decide +kernel
theorem dX3_putShifts_18 : decode cX3_putShifts 18 = .ok (.aload_n 0, 1) := by decide +kernel
theorem dX3_putShifts_19 : decode cX3_putShifts 19 = .ok (.iconst 2, 1) := by decide +kernel
theorem dX3_putShifts_20 : decode cX3_putShifts 20 = .ok (.iload_n 2, 1) := by decide +kernel
theorem dX3_putShifts_21 : decode cX3_putShifts 21 = .ok (.iconst 1, 1) := by decide +kernel
theorem dX3_putShifts_22 : decode cX3_putShifts 22 = .ok (.iconst (-1), 1) := by decide +kernel
theorem dX3_putShifts_23 : decode cX3_putShifts 23 = .ok (.invokevirtual 45, 3) := by decide +kernel
theorem dX3_putShifts_26 : decode cX3_putShifts 26 = .ok (.iinc 2 1, 3) := by decide +kernel
theorem dX3_putShifts_29 : decode cX3_putShifts 29 = .ok (.goto (-27), 3) := by decide +kernel
theorem dX3_putShifts_32 : decode cX3_putShifts 32 = .ok (.return_, 1) := by decide +kernel
theorem dX3_putRotations_0 : decode cX3_putRotations 0 = .ok (.iconst 0, 1) := by decide +kernel
theorem dX3_putRotations_1 : decode cX3_putRotations 1 = .ok (.istore_n 2, 1) := by decide +kernel
theorem dX3_putRotations_2 : decode cX3_putRotations 2 = .ok (.iload_n 2, 1) := by decide +kernel
theorem dX3_putRotations_3 : decode cX3_putRotations 3 = .ok (.aload_n 1, 1) := by decide +kernel
theorem dX3_putRotations_4 : decode cX3_putRotations 4 = .ok (.getfield 33, 3) := by decide +kernel
theorem dX3_putRotations_7 : decode cX3_putRotations 7 = .ok (.if_icmp .ge 73, 3) := by decide +kernel
theorem dX3_putRotations_10 : decode cX3_putRotations 10 = .ok (.iload_n 2, 1) := by decide +kernel
theorem dX3_putRotations_11 : decode cX3_putRotations 11 = .ok (.iconst 1, 1) := by decide +kernel
theorem dX3_putRotations_12 : decode cX3_putRotations 12 = .ok (.iadd, 1) := by decide +kernel
theorem dX3_putRotations_13 : decode cX3_putRotations 13 = .ok (.istore_n 3, 1) := by decide +kernel
theorem dX3_putRotations_14 : decode cX3_putRotations 14 = .ok (.iload_n 3, 1) := by decide +kernel
theorem dX3_putRotations_15 : decode cX3_putRotations 15 = .ok (.aload_n 1, 1) := by decide +kernel
theorem dX3_putRotations_16 : decode cX3_putRotations 16 = .ok (.getfield 33, 3) := by decide +kernel
theorem dX3_putRotations_19 : decode cX3_putRotations 19 = .ok (.if_icmp .ge 55, 3) := by decide +kernel
theorem dX3_putRotations_22 : decode cX3_putRotations 22 = .ok (.iload_n 2, 1) := by decide +kernel
theorem dX3_putRotations_23 : decode cX3_putRotations 23 = .ok (.iconst 1, 1) := by decide +kernel
theorem dX3_putRotations_24 : decode cX3_putRotations 24 = .ok (.iadd, 1) := by decide +kernel
theorem dX3_putRotations_25 : decode cX3_putRotations 25 = .ok (.istore 4, 2) := by decide +kernel
theorem dX3_putRotations_27 : decode cX3_putRotations 27 = .ok (.iload 4, 2) := by decide +kernel
theorem dX3_putRotations_29 : decode cX3_putRotations 29 = .ok (.aload_n 1, 1) := by decide +kernel
theorem dX3_putRotations_30 : decode cX3_putRotations 30 = .ok (.getfield 33, 3) := by decide +kernel
theorem dX3_putRotations_33 : decode cX3_putRotations 33 = .ok (.if_icmp .ge 35, 3) := by decide +kernel
theorem dX3_putRotations_36 : decode cX3_putRotations 36 = .ok (.iload_n 3, 1) := by decide +kernel
theorem dX3_putRotations_37 : decode cX3_putRotations 37 = .ok (.iload 4, 2) := by decide +kernel
theorem dX3_putRotations_39 : decode cX3_putRotations 39 = .ok (.if_icmp .eq 23, 3) := by decide +kernel
theorem dX3_putRotations_42 : decode cX3_putRotations 42 = .ok (.aload_n 1, 1) := by decide +kernel
theorem dX3_putRotations_43 : decode cX3_putRotations 43 = .ok (.iload_n 2, 1) := by decide +kernel
theorem dX3_putRotations_44 : decode cX3_putRotations 44 = .ok (.iload_n 3, 1) := by decide +kernel
theorem dX3_putRotations_45 : decode cX3_putRotations 45 = .ok (.iload 4, 2) := by decide +kernel
theorem dX3_putRotations_47 : decode cX3_putRotations 47 = .ok (.invokestatic 53, 3) := by decide +kernel
theorem dX3_putRotations_50 : decode cX3_putRotations 50 = .ok (.ifCond .eq 12, 3) := by decide +kernel
theorem dX3_putRotations_53 : decode cX3_putRotations 53 = .ok (.aload_n 0, 1) := by decide +kernel
theorem dX3_putRotations_54 : decode cX3_putRotations 54 = .ok (.iconst 3, 1) := by decide +kernel
theorem dX3_putRotations_55 : decode cX3_putRotations 55 = .ok (.iload_n 2, 1) := by decide +kernel
theorem dX3_putRotations_56 : decode cX3_putRotations 56 = .ok (.iload_n 3, 1) := by decide +kernel
theorem dX3_putRotations_57 : decode cX3_putRotations 57 = .ok (.iload 4, 2) := by decide +kernel
theorem dX3_putRotations_59 : decode cX3_putRotations 59 = .ok (.invokevirtual 45, 3) := by decide +kernel
theorem dX3_putRotations_62 : decode cX3_putRotations 62 = .ok (.iinc 4 1, 3) := by decide +kernel
theorem dX3_putRotations_65 : decode cX3_putRotations 65 = .ok (.goto (-38), 3) := by decide +kernel
theorem dX3_putRotations_68 : decode cX3_putRotations 68 = .ok (.iinc 3 1, 3) := by decide +kernel
theorem dX3_putRotations_71 : decode cX3_putRotations 71 = .ok (.goto (-57), 3) := by decide +kernel
theorem dX3_putRotations_74 : decode cX3_putRotations 74 = .ok (.iinc 2 1, 3) := by decide +kernel
theorem dX3_putRotations_77 : decode cX3_putRotations 77 = .ok (.goto (-75), 3) := by decide +kernel
theorem dX3_putRotations_80 : decode cX3_putRotations 80 = .ok (.return_, 1) := by decide +kernel
theorem dX3_isRotation_0 : decode cX3_isRotation 0 = .ok (.aload_n 0, 1) := by decide +kernel
theorem dX3_isRotation_1 : decode cX3_isRotation 1 = .ok (.getfield 42, 3) := by decide +kernel
theorem dX3_isRotation_4 : decode cX3_isRotation 4 = .ok (.iload_n 1, 1) := by decide +kernel
theorem dX3_isRotation_5 : decode cX3_isRotation 5 = .ok (.iaload, 1) := by decide +kernel
theorem dX3_isRotation_6 : decode cX3_isRotation 6 = .ok (.aload_n 0, 1) := by decide +kernel
theorem dX3_isRotation_7 : decode cX3_isRotation 7 = .ok (.getfield 42, 3) := by decide +kernel
theorem dX3_isRotation_10 : decode cX3_isRotation 10 = .ok (.iload_n 2, 1) := by decide +kernel
theorem dX3_isRotation_11 : decode cX3_isRotation 11 = .ok (.iaload, 1) := by decide +kernel
theorem dX3_isRotation_12 : decode cX3_isRotation 12 = .ok (.if_icmp .ne 22, 3) := by decide +kernel
theorem dX3_isRotation_15 : decode cX3_isRotation 15 = .ok (.aload_n 0, 1) := by decide +kernel
theorem dX3_isRotation_16 : decode cX3_isRotation 16 = .ok (.getfield 42, 3) := by decide +kernel
theorem dX3_isRotation_19 : decode cX3_isRotation 19 = .ok (.iload_n 2, 1) := by decide +kernel
theorem dX3_isRotation_20 : decode cX3_isRotation 20 = .ok (.iaload, 1) := by decide +kernel
theorem dX3_isRotation_21 : decode cX3_isRotation 21 = .ok (.aload_n 0, 1) := by decide +kernel
theorem dX3_isRotation_22 : decode cX3_isRotation 22 = .ok (.getfield 42, 3) := by decide +kernel
theorem dX3_isRotation_25 : decode cX3_isRotation 25 = .ok (.iload_n 3, 1) := by decide +kernel
theorem dX3_isRotation_26 : decode cX3_isRotation 26 = .ok (.iaload, 1) := by decide +kernel
theorem dX3_isRotation_27 : decode cX3_isRotation 27 = .ok (.if_icmp .ne 7, 3) := by decide +kernel
theorem dX3_isRotation_30 : decode cX3_isRotation 30 = .ok (.iconst 1, 1) := by decide +kernel
theorem dX3_isRotation_31 : decode cX3_isRotation 31 = .ok (.goto 4, 3) := by decide +kernel
theorem dX3_isRotation_34 : decode cX3_isRotation 34 = .ok (.iconst 0, 1) := by decide +kernel
theorem dX3_isRotation_35 : decode cX3_isRotation 35 = .ok (.istore 4, 2) := by decide +kernel
theorem dX3_isRotation_37 : decode cX3_isRotation 37 = .ok (.iload 4, 2) := by decide +kernel
theorem dX3_isRotation_39 : decode cX3_isRotation 39 = .ok (.ifCond .ne 34, 3) := by decide +kernel
theorem dX3_isRotation_42 : decode cX3_isRotation 42 = .ok (.aload_n 0, 1) := by decide +kernel
theorem dX3_isRotation_43 : decode cX3_isRotation 43 = .ok (.iload_n 1, 1) := by decide +kernel
theorem dX3_isRotation_44 : decode cX3_isRotation 44 = .ok (.iload_n 2, 1) := by decide +kernel
theorem dX3_isRotation_45 : decode cX3_isRotation 45 = .ok (.invokestatic 49, 3) := by decide +kernel
theorem dX3_isRotation_48 : decode cX3_isRotation 48 = .ok (.ifCond .eq 25, 3) := by decide +kernel
theorem dX3_isRotation_51 : decode cX3_isRotation 51 = .ok (.aload_n 0, 1) := by decide +kernel
theorem dX3_isRotation_52 : decode cX3_isRotation 52 = .ok (.iload_n 2, 1) := by decide +kernel
theorem dX3_isRotation_53 : decode cX3_isRotation 53 = .ok (.iload_n 3, 1) := by decide +kernel
theorem dX3_isRotation_54 : decode cX3_isRotation 54 = .ok (.invokestatic 49, 3) := by decide +kernel
theorem dX3_isRotation_57 : decode cX3_isRotation 57 = .ok (.ifCond .eq 16, 3) := by decide +kernel
theorem dX3_isRotation_60 : decode cX3_isRotation 60 = .ok (.aload_n 0, 1) := by decide +kernel
theorem dX3_isRotation_61 : decode cX3_isRotation 61 = .ok (.iload_n 3, 1) := by decide +kernel
theorem dX3_isRotation_62 : decode cX3_isRotation 62 = .ok (.iload_n 1, 1) := by decide +kernel
theorem dX3_isRotation_63 : decode cX3_isRotation 63 = .ok (.invokestatic 49, 3) := by decide +kernel
theorem dX3_isRotation_66 : decode cX3_isRotation 66 = .ok (.ifCond .eq 7, 3) := by decide +kernel
theorem dX3_isRotation_69 : decode cX3_isRotation 69 = .ok (.iconst 1, 1) := by decide +kernel
theorem dX3_isRotation_70 : decode cX3_isRotation 70 = .ok (.goto 4, 3) := by decide +kernel
theorem dX3_isRotation_73 : decode cX3_isRotation 73 = .ok (.iconst 0, 1) := by decide +kernel
theorem dX3_isRotation_74 : decode cX3_isRotation 74 = .ok (.ireturn, 1) := by decide +kernel
theorem dX3_fits_0 : decode cX3_fits 0 = .ok (.aload_n 0, 1) := by decide +kernel
theorem dX3_fits_1 : decode cX3_fits 1 = .ok (.getfield 42, 3) := by decide +kernel
theorem dX3_fits_4 : decode cX3_fits 4 = .ok (.iload_n 1, 1) := by decide +kernel
theorem dX3_fits_5 : decode cX3_fits 5 = .ok (.iaload, 1) := by decide +kernel
theorem dX3_fits_6 : decode cX3_fits 6 = .ok (.aload_n 0, 1) := by decide +kernel
theorem dX3_fits_7 : decode cX3_fits 7 = .ok (.getfield 38, 3) := by decide +kernel
theorem dX3_fits_10 : decode cX3_fits 10 = .ok (.iload_n 2, 1) := by decide +kernel
theorem dX3_fits_11 : decode cX3_fits 11 = .ok (.iaload, 1) := by decide +kernel
theorem dX3_fits_12 : decode cX3_fits 12 = .ok (.if_icmp .ge 7, 3) := by decide +kernel
theorem dX3_fits_15 : decode cX3_fits 15 = .ok (.iconst 1, 1) := by decide +kernel
theorem dX3_fits_16 : decode cX3_fits 16 = .ok (.goto 4, 3) := by decide +kernel
theorem dX3_fits_19 : decode cX3_fits 19 = .ok (.iconst 0, 1) := by decide +kernel
theorem dX3_fits_20 : decode cX3_fits 20 = .ok (.ireturn, 1) := by decide +kernel
theorem dX3_tryOut_0 : decode cX3_tryOut 0 = .ok (.aload_n 0, 1) := by decide +kernel
theorem dX3_tryOut_1 : decode cX3_tryOut 1 = .ok (.getfield 11, 3) := by decide +kernel
theorem dX3_tryOut_4 : decode cX3_tryOut 4 = .ok (.iconst 1, 1) := by decide +kernel
theorem dX3_tryOut_5 : decode cX3_tryOut 5 = .ok (.aaload, 1) := by decide +kernel
theorem dX3_tryOut_6 : decode cX3_tryOut 6 = .ok (.iload_n 2, 1) := by decide +kernel
theorem dX3_tryOut_7 : decode cX3_tryOut 7 = .ok (.iaload, 1) := by decide +kernel
theorem dX3_tryOut_8 : decode cX3_tryOut 8 = .ok (.istore 4, 2) := by decide +kernel
theorem dX3_tryOut_10 : decode cX3_tryOut 10 = .ok (.aload_n 0, 1) := by decide +kernel
theorem dX3_tryOut_11 : decode cX3_tryOut 11 = .ok (.getfield 11, 3) := by decide +kernel
theorem dX3_tryOut_14 : decode cX3_tryOut 14 = .ok (.iconst 2, 1) := by decide +kernel
theorem dX3_tryOut_15 : decode cX3_tryOut 15 = .ok (.aaload, 1) := by decide +kernel
theorem dX3_tryOut_16 : decode cX3_tryOut 16 = .ok (.iload_n 2, 1) := by decide +kernel
theorem dX3_tryOut_17 : decode cX3_tryOut 17 = .ok (.iaload, 1) := by decide +kernel
theorem dX3_tryOut_18 : decode cX3_tryOut 18 = .ok (.istore 5, 2) := by decide +kernel
theorem dX3_tryOut_20 : decode cX3_tryOut 20 = .ok (.aload_n 0, 1) := by decide +kernel
theorem dX3_tryOut_21 : decode cX3_tryOut 21 = .ok (.getfield 11, 3) := by decide +kernel
theorem dX3_tryOut_24 : decode cX3_tryOut 24 = .ok (.iconst 3, 1) := by decide +kernel
theorem dX3_tryOut_25 : decode cX3_tryOut 25 = .ok (.aaload, 1) := by decide +kernel
theorem dX3_tryOut_26 : decode cX3_tryOut 26 = .ok (.iload_n 2, 1) := by decide +kernel
theorem dX3_tryOut_27 : decode cX3_tryOut 27 = .ok (.iaload, 1) := by decide +kernel
theorem dX3_tryOut_28 : decode cX3_tryOut 28 = .ok (.istore 6, 2) := by decide +kernel
theorem dX3_tryOut_30 : decode cX3_tryOut 30 = .ok (.aload_n 1, 1) := by decide +kernel
theorem dX3_tryOut_31 : decode cX3_tryOut 31 = .ok (.getfield 42, 3) := by decide +kernel
theorem dX3_tryOut_34 : decode cX3_tryOut 34 = .ok (.iconst 0, 1) := by decide +kernel
theorem dX3_tryOut_35 : decode cX3_tryOut 35 = .ok (.aload_n 3, 1) := by decide +kernel
theorem dX3_tryOut_36 : decode cX3_tryOut 36 = .ok (.iconst 0, 1) := by decide +kernel
theorem dX3_tryOut_37 : decode cX3_tryOut 37 = .ok (.bipush 10, 2) := by decide +kernel
theorem dX3_tryOut_39 : decode cX3_tryOut 39 = .ok (.invokestatic 57, 3) := by decide +kernel
theorem dX3_tryOut_42 : decode cX3_tryOut 42 = .ok (.aload_n 0, 1) := by decide +kernel
theorem dX3_tryOut_43 : decode cX3_tryOut 43 = .ok (.getfield 11, 3) := by decide +kernel
theorem dX3_tryOut_46 : decode cX3_tryOut 46 = .ok (.iconst 0, 1) := by decide +kernel
theorem dX3_tryOut_47 : decode cX3_tryOut 47 = .ok (.aaload, 1) := by decide +kernel
theorem dX3_tryOut_48 : decode cX3_tryOut 48 = .ok (.iload_n 2, 1) := by decide +kernel
theorem dX3_tryOut_49 : decode cX3_tryOut 49 = .ok (.iaload, 1) := by decide +kernel
theorem dX3_tryOut_50 : decode cX3_tryOut 50 = .ok (.tableswitch 135 0 3 #[30, 39, 64, 99], 30) := by decide +kernel
theorem dX3_tryOut_80 : decode cX3_tryOut 80 = .ok (.aload_n 3, 1) := by decide +kernel
theorem dX3_tryOut_81 : decode cX3_tryOut 81 = .ok (.iload 4, 2) := by decide +kernel
theorem dX3_tryOut_83 : decode cX3_tryOut 83 = .ok (.iload 5, 2) := by decide +kernel
theorem dX3_tryOut_85 : decode cX3_tryOut 85 = .ok (.iastore, 1) := by decide +kernel
theorem dX3_tryOut_86 : decode cX3_tryOut 86 = .ok (.goto 99, 3) := by decide +kernel
theorem dX3_tryOut_89 : decode cX3_tryOut 89 = .ok (.aload_n 3, 1) := by decide +kernel
theorem dX3_tryOut_90 : decode cX3_tryOut 90 = .ok (.iload 4, 2) := by decide +kernel
theorem dX3_tryOut_92 : decode cX3_tryOut 92 = .ok (.aload_n 1, 1) := by decide +kernel
theorem dX3_tryOut_93 : decode cX3_tryOut 93 = .ok (.getfield 42, 3) := by decide +kernel
theorem dX3_tryOut_96 : decode cX3_tryOut 96 = .ok (.iload 5, 2) := by decide +kernel
theorem dX3_tryOut_98 : decode cX3_tryOut 98 = .ok (.iaload, 1) := by decide +kernel
theorem dX3_tryOut_99 : decode cX3_tryOut 99 = .ok (.iastore, 1) := by decide +kernel
theorem dX3_tryOut_100 : decode cX3_tryOut 100 = .ok (.aload_n 3, 1) := by decide +kernel
theorem dX3_tryOut_101 : decode cX3_tryOut 101 = .ok (.iload 5, 2) := by decide +kernel
theorem dX3_tryOut_103 : decode cX3_tryOut 103 = .ok (.aload_n 1, 1) := by decide +kernel
theorem dX3_tryOut_104 : decode cX3_tryOut 104 = .ok (.getfield 42, 3) := by decide +kernel
theorem dX3_tryOut_107 : decode cX3_tryOut 107 = .ok (.iload 4, 2) := by decide +kernel
theorem dX3_tryOut_109 : decode cX3_tryOut 109 = .ok (.iaload, 1) := by decide +kernel
theorem dX3_tryOut_110 : decode cX3_tryOut 110 = .ok (.iastore, 1) := by decide +kernel
theorem dX3_tryOut_111 : decode cX3_tryOut 111 = .ok (.goto 74, 3) := by decide +kernel
theorem dX3_tryOut_114 : decode cX3_tryOut 114 = .ok (.aload_n 3, 1) := by decide +kernel
theorem dX3_tryOut_115 : decode cX3_tryOut 115 = .ok (.iload 4, 2) := by decide +kernel
theorem dX3_tryOut_117 : decode cX3_tryOut 117 = .ok (.aload_n 1, 1) := by decide +kernel
theorem dX3_tryOut_118 : decode cX3_tryOut 118 = .ok (.getfield 42, 3) := by decide +kernel
theorem dX3_tryOut_121 : decode cX3_tryOut 121 = .ok (.iload 4, 2) := by decide +kernel
theorem dX3_tryOut_123 : decode cX3_tryOut 123 = .ok (.iaload, 1) := by decide +kernel
theorem dX3_tryOut_124 : decode cX3_tryOut 124 = .ok (.aload_n 1, 1) := by decide +kernel
theorem dX3_tryOut_125 : decode cX3_tryOut 125 = .ok (.getfield 38, 3) := by decide +kernel
theorem dX3_tryOut_128 : decode cX3_tryOut 128 = .ok (.iload 4, 2) := by decide +kernel
theorem dX3_tryOut_130 : decode cX3_tryOut 130 = .ok (.iaload, 1) := by decide +kernel
theorem dX3_tryOut_131 : decode cX3_tryOut 131 = .ok (.iload 5, 2) := by decide +kernel
theorem dX3_tryOut_133 : decode cX3_tryOut 133 = .ok (.iconst 1, 1) := by decide +kernel
theorem dX3_tryOut_134 : decode cX3_tryOut 134 = .ok (.if_icmp .ne 7, 3) := by decide +kernel
theorem dX3_tryOut_137 : decode cX3_tryOut 137 = .ok (.iconst 1, 1) := by decide +kernel
theorem dX3_tryOut_138 : decode cX3_tryOut 138 = .ok (.goto 4, 3) := by decide +kernel
theorem dX3_tryOut_141 : decode cX3_tryOut 141 = .ok (.iconst 0, 1) := by decide +kernel
theorem dX3_tryOut_142 : decode cX3_tryOut 142 = .ok (.invokestatic 63, 3) := by decide +kernel
theorem dX3_tryOut_145 : decode cX3_tryOut 145 = .ok (.iastore, 1) := by decide +kernel
theorem dX3_tryOut_146 : decode cX3_tryOut 146 = .ok (.goto 39, 3) := by decide +kernel
theorem dX3_tryOut_149 : decode cX3_tryOut 149 = .ok (.aload_n 3, 1) := by decide +kernel
theorem dX3_tryOut_150 : decode cX3_tryOut 150 = .ok (.iload 5, 2) := by decide +kernel
theorem dX3_tryOut_152 : decode cX3_tryOut 152 = .ok (.aload_n 1, 1) := by decide +kernel
theorem dX3_tryOut_153 : decode cX3_tryOut 153 = .ok (.getfield 42, 3) := by decide +kernel
theorem dX3_tryOut_156 : decode cX3_tryOut 156 = .ok (.iload 4, 2) := by decide +kernel
theorem dX3_tryOut_158 : decode cX3_tryOut 158 = .ok (.iaload, 1) := by decide +kernel
theorem dX3_tryOut_159 : decode cX3_tryOut 159 = .ok (.iastore, 1) := by decide +kernel
theorem dX3_tryOut_160 : decode cX3_tryOut 160 = .ok (.aload_n 3, 1) := by decide +kernel
theorem dX3_tryOut_161 : decode cX3_tryOut 161 = .ok (.iload 6, 2) := by decide +kernel
theorem dX3_tryOut_163 : decode cX3_tryOut 163 = .ok (.aload_n 1, 1) := by decide +kernel
theorem dX3_tryOut_164 : decode cX3_tryOut 164 = .ok (.getfield 42, 3) := by decide +kernel
theorem dX3_tryOut_167 : decode cX3_tryOut 167 = .ok (.iload 5, 2) := by decide +kernel
theorem dX3_tryOut_169 : decode cX3_tryOut 169 = .ok (.iaload, 1) := by decide +kernel
theorem dX3_tryOut_170 : decode cX3_tryOut 170 = .ok (.iastore, 1) := by decide +kernel
theorem dX3_tryOut_171 : decode cX3_tryOut 171 = .ok (.aload_n 3, 1) := by decide +kernel
theorem dX3_tryOut_172 : decode cX3_tryOut 172 = .ok (.iload 4, 2) := by decide +kernel
theorem dX3_tryOut_174 : decode cX3_tryOut 174 = .ok (.aload_n 1, 1) := by decide +kernel
theorem dX3_tryOut_175 : decode cX3_tryOut 175 = .ok (.getfield 42, 3) := by decide +kernel
theorem dX3_tryOut_178 : decode cX3_tryOut 178 = .ok (.iload 6, 2) := by decide +kernel
theorem dX3_tryOut_180 : decode cX3_tryOut 180 = .ok (.iaload, 1) := by decide +kernel
theorem dX3_tryOut_181 : decode cX3_tryOut 181 = .ok (.iastore, 1) := by decide +kernel
theorem dX3_tryOut_182 : decode cX3_tryOut 182 = .ok (.goto 3, 3) := by decide +kernel
theorem dX3_tryOut_185 : decode cX3_tryOut 185 = .ok (.return_, 1) := by decide +kernel
theorem dX3_shifted_0 : decode cX3_shifted 0 = .ok (.iload_n 2, 1) := by decide +kernel
theorem dX3_shifted_1 : decode cX3_shifted 1 = .ok (.ifCond .eq 18, 3) := by decide +kernel
theorem dX3_shifted_4 : decode cX3_shifted 4 = .ok (.iload_n 0, 1) := by decide +kernel
theorem dX3_shifted_5 : decode cX3_shifted 5 = .ok (.iload_n 1, 1) := by decide +kernel
theorem dX3_shifted_6 : decode cX3_shifted 6 = .ok (.iconst 1, 1) := by decide +kernel
theorem dX3_shifted_7 : decode cX3_shifted 7 = .ok (.isub, 1) := by decide +kernel
theorem dX3_shifted_8 : decode cX3_shifted 8 = .ok (.if_icmp .ne 7, 3) := by decide +kernel
theorem dX3_shifted_11 : decode cX3_shifted 11 = .ok (.iconst 0, 1) := by decide +kernel
theorem dX3_shifted_12 : decode cX3_shifted 12 = .ok (.goto 6, 3) := by decide +kernel
theorem dX3_shifted_15 : decode cX3_shifted 15 = .ok (.iload_n 0, 1) := by decide +kernel
theorem dX3_shifted_16 : decode cX3_shifted 16 = .ok (.iconst 1, 1) := by decide +kernel
theorem dX3_shifted_17 : decode cX3_shifted 17 = .ok (.iadd, 1) := by decide +kernel
theorem dX3_shifted_18 : decode cX3_shifted 18 = .ok (.ireturn, 1) := by decide +kernel
theorem dX3_shifted_19 : decode cX3_shifted 19 = .ok (.iload_n 0, 1) := by decide +kernel
theorem dX3_shifted_20 : decode cX3_shifted 20 = .ok (.ifCond .ne 9, 3) := by decide +kernel
theorem dX3_shifted_23 : decode cX3_shifted 23 = .ok (.iload_n 1, 1) := by decide +kernel
theorem dX3_shifted_24 : decode cX3_shifted 24 = .ok (.iconst 1, 1) := by decide +kernel
theorem dX3_shifted_25 : decode cX3_shifted 25 = .ok (.isub, 1) := by decide +kernel
theorem dX3_shifted_26 : decode cX3_shifted 26 = .ok (.goto 6, 3) := by decide +kernel
theorem dX3_shifted_29 : decode cX3_shifted 29 = .ok (.iload_n 0, 1) := by decide +kernel
theorem dX3_shifted_30 : decode cX3_shifted 30 = .ok (.iconst 1, 1) := by decide +kernel
theorem dX3_shifted_31 : decode cX3_shifted 31 = .ok (.isub, 1) := by decide +kernel
theorem dX3_shifted_32 : decode cX3_shifted 32 = .ok (.ireturn, 1) := by decide +kernel
theorem dX4_init_0 : decode cX4_init 0 = .ok (.aload_n 0, 1) := by decide +kernel
theorem dX4_init_1 : decode cX4_init 1 = .ok (.invokespecial 3, 3) := by decide +kernel
theorem dX4_init_4 : decode cX4_init 4 = .ok (.aload_n 0, 1) := by decide +kernel
theorem dX4_init_5 : decode cX4_init 5 = .ok (.bipush 10, 2) := by decide +kernel
theorem dX4_init_7 : decode cX4_init 7 = .ok (.newarray .int, 2) := by decide +kernel
theorem dX4_init_9 : decode cX4_init 9 = .ok (.putfield 9, 3) := by decide +kernel
theorem dX4_init_12 : decode cX4_init 12 = .ok (.aload_n 0, 1) := by decide +kernel
theorem dX4_init_13 : decode cX4_init 13 = .ok (.bipush 10, 2) := by decide +kernel
theorem dX4_init_15 : decode cX4_init 15 = .ok (.newarray .int, 2) := by decide +kernel
theorem dX4_init_17 : decode cX4_init 17 = .ok (.putfield 15, 3) := by decide +kernel
theorem dX4_init_20 : decode cX4_init 20 = .ok (.aload_n 0, 1) := by decide +kernel
theorem dX4_init_21 : decode cX4_init 21 = .ok (.bipush 20, 2) := by decide +kernel
theorem dX4_init_23 : decode cX4_init 23 = .ok (.newarray .int, 2) := by decide +kernel
theorem dX4_init_25 : decode cX4_init 25 = .ok (.putfield 18, 3) := by decide +kernel
theorem dX4_init_28 : decode cX4_init 28 = .ok (.aload_n 0, 1) := by decide +kernel
theorem dX4_init_29 : decode cX4_init 29 = .ok (.bipush 20, 2) := by decide +kernel
theorem dX4_init_31 : decode cX4_init 31 = .ok (.newarray .int, 2) := by decide +kernel
theorem dX4_init_33 : decode cX4_init 33 = .ok (.putfield 21, 3) := by decide +kernel
theorem dX4_init_36 : decode cX4_init 36 = .ok (.aload_n 0, 1) := by decide +kernel
theorem dX4_init_37 : decode cX4_init 37 = .ok (.bipush 20, 2) := by decide +kernel
theorem dX4_init_39 : decode cX4_init 39 = .ok (.newarray .int, 2) := by decide +kernel
theorem dX4_init_41 : decode cX4_init 41 = .ok (.putfield 24, 3) := by decide +kernel
theorem dX4_init_44 : decode cX4_init 44 = .ok (.aload_n 0, 1) := by decide +kernel
theorem dX4_init_45 : decode cX4_init 45 = .ok (.bipush 20, 2) := by decide +kernel
theorem dX4_init_47 : decode cX4_init 47 = .ok (.newarray .int, 2) := by decide +kernel
theorem dX4_init_49 : decode cX4_init 49 = .ok (.putfield 27, 3) := by decide +kernel
theorem dX4_init_52 : decode cX4_init 52 = .ok (.aload_n 0, 1) := by decide +kernel
theorem dX4_init_53 : decode cX4_init 53 = .ok (.bipush 10, 2) := by decide +kernel
theorem dX4_init_55 : decode cX4_init 55 = .ok (.newarray .int, 2) := by decide +kernel
theorem dX4_init_57 : decode cX4_init 57 = .ok (.putfield 30, 3) := by decide +kernel
theorem dX4_init_60 : decode cX4_init 60 = .ok (.aload_n 0, 1) := by decide +kernel
theorem dX4_init_61 : decode cX4_init 61 = .ok (.iconst 0, 1) := by decide +kernel
theorem dX4_init_62 : decode cX4_init 62 = .ok (.putfield 33, 3) := by decide +kernel
theorem dX4_init_65 : decode cX4_init 65 = .ok (.aload_n 0, 1) := by decide +kernel
theorem dX4_init_66 : decode cX4_init 66 = .ok (.iconst 0, 1) := by decide +kernel
theorem dX4_init_67 : decode cX4_init 67 = .ok (.putfield 37, 3) := by decide +kernel
theorem dX4_init_70 : decode cX4_init 70 = .ok (.return_, 1) := by decide +kernel
theorem dX4_removeAll_0 : decode cX4_removeAll 0 = .ok (.aload_n 0, 1) := by decide +kernel
theorem dX4_removeAll_1 : decode cX4_removeAll 1 = .ok (.iconst 0, 1) := by decide +kernel
theorem dX4_removeAll_2 : decode cX4_removeAll 2 = .ok (.putfield 33, 3) := by decide +kernel
theorem dX4_removeAll_5 : decode cX4_removeAll 5 = .ok (.aload_n 0, 1) := by decide +kernel
theorem dX4_removeAll_6 : decode cX4_removeAll 6 = .ok (.iconst 0, 1) := by decide +kernel
theorem dX4_removeAll_7 : decode cX4_removeAll 7 = .ok (.putfield 37, 3) := by decide +kernel
theorem dX4_removeAll_10 : decode cX4_removeAll 10 = .ok (.return_, 1) := by decide +kernel
theorem dX4_copyFrom_0 : decode cX4_copyFrom 0 = .ok (.aload_n 0, 1) := by decide +kernel
theorem dX4_copyFrom_1 : decode cX4_copyFrom 1 = .ok (.aload_n 1, 1) := by decide +kernel
theorem dX4_copyFrom_2 : decode cX4_copyFrom 2 = .ok (.getfield 33, 3) := by decide +kernel
theorem dX4_copyFrom_5 : decode cX4_copyFrom 5 = .ok (.putfield 33, 3) := by decide +kernel
theorem dX4_copyFrom_8 : decode cX4_copyFrom 8 = .ok (.aload_n 0, 1) := by decide +kernel
theorem dX4_copyFrom_9 : decode cX4_copyFrom 9 = .ok (.aload_n 1, 1) := by decide +kernel
theorem dX4_copyFrom_10 : decode cX4_copyFrom 10 = .ok (.getfield 37, 3) := by decide +kernel
theorem dX4_copyFrom_13 : decode cX4_copyFrom 13 = .ok (.putfield 37, 3) := by decide +kernel
theorem dX4_copyFrom_16 : decode cX4_copyFrom 16 = .ok (.aload_n 1, 1) := by decide +kernel
theorem dX4_copyFrom_17 : decode cX4_copyFrom 17 = .ok (.getfield 9, 3) := by decide +kernel
theorem dX4_copyFrom_20 : decode cX4_copyFrom 20 = .ok (.iconst 0, 1) := by decide +kernel
theorem dX4_copyFrom_21 : decode cX4_copyFrom 21 = .ok (.aload_n 0, 1) := by decide +kernel
theorem dX4_copyFrom_22 : decode cX4_copyFrom 22 = .ok (.getfield 9, 3) := by decide +kernel
theorem dX4_copyFrom_25 : decode cX4_copyFrom 25 = .ok (.iconst 0, 1) := by decide +kernel
theorem dX4_copyFrom_26 : decode cX4_copyFrom 26 = .ok (.bipush 10, 2) := by decide +kernel
theorem dX4_copyFrom_28 : decode cX4_copyFrom 28 = .ok (.invokestatic 40, 3) := by decide +kernel
theorem dX4_copyFrom_31 : decode cX4_copyFrom 31 = .ok (.aload_n 1, 1) := by decide +kernel
theorem dX4_copyFrom_32 : decode cX4_copyFrom 32 = .ok (.getfield 15, 3) := by decide +kernel
theorem dX4_copyFrom_35 : decode cX4_copyFrom 35 = .ok (.iconst 0, 1) := by decide +kernel
theorem dX4_copyFrom_36 : decode cX4_copyFrom 36 = .ok (.aload_n 0, 1) := by decide +kernel
theorem dX4_copyFrom_37 : decode cX4_copyFrom 37 = .ok (.getfield 15, 3) := by decide +kernel
theorem dX4_copyFrom_40 : decode cX4_copyFrom 40 = .ok (.iconst 0, 1) := by decide +kernel
theorem dX4_copyFrom_41 : decode cX4_copyFrom 41 = .ok (.bipush 10, 2) := by decide +kernel
theorem dX4_copyFrom_43 : decode cX4_copyFrom 43 = .ok (.invokestatic 40, 3) := by decide +kernel
theorem dX4_copyFrom_46 : decode cX4_copyFrom 46 = .ok (.aload_n 1, 1) := by decide +kernel
theorem dX4_copyFrom_47 : decode cX4_copyFrom 47 = .ok (.getfield 18, 3) := by decide +kernel
theorem dX4_copyFrom_50 : decode cX4_copyFrom 50 = .ok (.iconst 0, 1) := by decide +kernel
theorem dX4_copyFrom_51 : decode cX4_copyFrom 51 = .ok (.aload_n 0, 1) := by decide +kernel
theorem dX4_copyFrom_52 : decode cX4_copyFrom 52 = .ok (.getfield 18, 3) := by decide +kernel
theorem dX4_copyFrom_55 : decode cX4_copyFrom 55 = .ok (.iconst 0, 1) := by decide +kernel
theorem dX4_copyFrom_56 : decode cX4_copyFrom 56 = .ok (.bipush 20, 2) := by decide +kernel
theorem dX4_copyFrom_58 : decode cX4_copyFrom 58 = .ok (.invokestatic 40, 3) := by decide +kernel
theorem dX4_copyFrom_61 : decode cX4_copyFrom 61 = .ok (.aload_n 1, 1) := by decide +kernel
theorem dX4_copyFrom_62 : decode cX4_copyFrom 62 = .ok (.getfield 21, 3) := by decide +kernel
theorem dX4_copyFrom_65 : decode cX4_copyFrom 65 = .ok (.iconst 0, 1) := by decide +kernel
theorem dX4_copyFrom_66 : decode cX4_copyFrom 66 = .ok (.aload_n 0, 1) := by decide +kernel
theorem dX4_copyFrom_67 : decode cX4_copyFrom 67 = .ok (.getfield 21, 3) := by decide +kernel
theorem dX4_copyFrom_70 : decode cX4_copyFrom 70 = .ok (.iconst 0, 1) := by decide +kernel
theorem dX4_copyFrom_71 : decode cX4_copyFrom 71 = .ok (.bipush 20, 2) := by decide +kernel
theorem dX4_copyFrom_73 : decode cX4_copyFrom 73 = .ok (.invokestatic 40, 3) := by decide +kernel
theorem dX4_copyFrom_76 : decode cX4_copyFrom 76 = .ok (.aload_n 1, 1) := by decide +kernel
theorem dX4_copyFrom_77 : decode cX4_copyFrom 77 = .ok (.getfield 24, 3) := by decide +kernel
theorem dX4_copyFrom_80 : decode cX4_copyFrom 80 = .ok (.iconst 0, 1) := by decide +kernel
theorem dX4_copyFrom_81 : decode cX4_copyFrom 81 = .ok (.aload_n 0, 1) := by decide +kernel
theorem dX4_copyFrom_82 : decode cX4_copyFrom 82 = .ok (.getfield 24, 3) := by decide +kernel
theorem dX4_copyFrom_85 : decode cX4_copyFrom 85 = .ok (.iconst 0, 1) := by decide +kernel
theorem dX4_copyFrom_86 : decode cX4_copyFrom 86 = .ok (.bipush 20, 2) := by decide +kernel
theorem dX4_copyFrom_88 : decode cX4_copyFrom 88 = .ok (.invokestatic 40, 3) := by decide +kernel
theorem dX4_copyFrom_91 : decode cX4_copyFrom 91 = .ok (.aload_n 1, 1) := by decide +kernel
theorem dX4_copyFrom_92 : decode cX4_copyFrom 92 = .ok (.getfield 27, 3) := by decide +kernel
theorem dX4_copyFrom_95 : decode cX4_copyFrom 95 = .ok (.iconst 0, 1) := by decide +kernel
theorem dX4_copyFrom_96 : decode cX4_copyFrom 96 = .ok (.aload_n 0, 1) := by decide +kernel
theorem dX4_copyFrom_97 : decode cX4_copyFrom 97 = .ok (.getfield 27, 3) := by decide +kernel
theorem dX4_copyFrom_100 : decode cX4_copyFrom 100 = .ok (.iconst 0, 1) := by decide +kernel
theorem dX4_copyFrom_101 : decode cX4_copyFrom 101 = .ok (.bipush 20, 2) := by decide +kernel
theorem dX4_copyFrom_103 : decode cX4_copyFrom 103 = .ok (.invokestatic 40, 3) := by decide +kernel
theorem dX4_copyFrom_106 : decode cX4_copyFrom 106 = .ok (.return_, 1) := by decide +kernel
theorem dX4_takeValues_0 : decode cX4_takeValues 0 = .ok (.aload_n 1, 1) := by decide +kernel
theorem dX4_takeValues_1 : decode cX4_takeValues 1 = .ok (.iconst 0, 1) := by decide +kernel
theorem dX4_takeValues_2 : decode cX4_takeValues 2 = .ok (.aload_n 0, 1) := by decide +kernel
theorem dX4_takeValues_3 : decode cX4_takeValues 3 = .ok (.getfield 15, 3) := by decide +kernel
theorem dX4_takeValues_6 : decode cX4_takeValues 6 = .ok (.iconst 0, 1) := by decide +kernel
theorem dX4_takeValues_7 : decode cX4_takeValues 7 = .ok (.bipush 10, 2) := by decide +kernel
theorem dX4_takeValues_9 : decode cX4_takeValues 9 = .ok (.invokestatic 40, 3) := by decide +kernel
theorem dX4_takeValues_12 : decode cX4_takeValues 12 = .ok (.return_, 1) := by decide +kernel
theorem dX4_putVariable_0 : decode cX4_putVariable 0 = .ok (.aload_n 0, 1) := by decide +kernel
theorem dX4_putVariable_1 : decode cX4_putVariable 1 = .ok (.getfield 9, 3) := by decide +kernel
theorem dX4_putVariable_4 : decode cX4_putVariable 4 = .ok (.aload_n 0, 1) := by decide +kernel
theorem dX4_putVariable_5 : decode cX4_putVariable 5 = .ok (.getfield 33, 3) := by decide +kernel
theorem dX4_putVariable_8 : decode cX4_putVariable 8 = .ok (.iload_n 1, 1) := by decide +kernel
theorem dX4_putVariable_9 : decode cX4_putVariable 9 = .ok (.iastore, 1) := by decide +kernel
theorem dX4_putVariable_10 : decode cX4_putVariable 10 = .ok (.aload_n 0, 1) := by decide +kernel
theorem dX4_putVariable_11 : decode cX4_putVariable 11 = .ok (.getfield 15, 3) := by decide +kernel
theorem dX4_putVariable_14 : decode cX4_putVariable 14 = .ok (.aload_n 0, 1) := by decide +kernel
theorem dX4_putVariable_15 : decode cX4_putVariable 15 = .ok (.getfield 33, 3) := by decide +kernel
theorem dX4_putVariable_18 : decode cX4_putVariable 18 = .ok (.iconst 0, 1) := by decide +kernel
theorem dX4_putVariable_19 : decode cX4_putVariable 19 = .ok (.iastore, 1) := by decide +kernel
theorem dX4_putVariable_20 : decode cX4_putVariable 20 = .ok (.aload_n 0, 1) := by decide +kernel
theorem dX4_putVariable_21 : decode cX4_putVariable 21 = .ok (.dup, 1) := by decide +kernel
theorem dX4_putVariable_22 : decode cX4_putVariable 22 = .ok (.getfield 33, 3) := by decide +kernel
theorem dX4_putVariable_25 : decode cX4_putVariable 25 = .ok (.iconst 1, 1) := by decide +kernel
theorem dX4_putVariable_26 : decode cX4_putVariable 26 = .ok (.iadd, 1) := by decide +kernel
theorem dX4_putVariable_27 : decode cX4_putVariable 27 = .ok (.putfield 33, 3) := by decide +kernel
theorem dX4_putVariable_30 : decode cX4_putVariable 30 = .ok (.return_, 1) := by decide +kernel
theorem dX4_putConstraint_0 : decode cX4_putConstraint 0 = .ok (.aload_n 0, 1) := by decide +kernel
theorem dX4_putConstraint_1 : decode cX4_putConstraint 1 = .ok (.getfield 18, 3) := by decide +kernel
theorem dX4_putConstraint_4 : decode cX4_putConstraint 4 = .ok (.aload_n 0, 1) := by decide +kernel
theorem dX4_putConstraint_5 : decode cX4_putConstraint 5 = .ok (.getfield 37, 3) := by decide +kernel
theorem dX4_putConstraint_8 : decode cX4_putConstraint 8 = .ok (.iload_n 1, 1) := by decide +kernel
theorem dX4_putConstraint_9 : decode cX4_putConstraint 9 = .ok (.iastore, 1) := by decide +kernel
theorem dX4_putConstraint_10 : decode cX4_putConstraint 10 = .ok (.aload_n 0, 1) := by decide +kernel
theorem dX4_putConstraint_11 : decode cX4_putConstraint 11 = .ok (.getfield 21, 3) := by decide +kernel
theorem dX4_putConstraint_14 : decode cX4_putConstraint 14 = .ok (.aload_n 0, 1) := by decide +kernel
theorem dX4_putConstraint_15 : decode cX4_putConstraint 15 = .ok (.getfield 37, 3) := by decide +kernel
theorem dX4_putConstraint_18 : decode cX4_putConstraint 18 = .ok (.iload_n 2, 1) := by decide +kernel
theorem dX4_putConstraint_19 : decode cX4_putConstraint 19 = .ok (.iastore, 1) := by decide +kernel
theorem dX4_putConstraint_20 : decode cX4_putConstraint 20 = .ok (.aload_n 0, 1) := by decide +kernel
theorem dX4_putConstraint_21 : decode cX4_putConstraint 21 = .ok (.getfield 24, 3) := by decide +kernel
theorem dX4_putConstraint_24 : decode cX4_putConstraint 24 = .ok (.aload_n 0, 1) := by decide +kernel
theorem dX4_putConstraint_25 : decode cX4_putConstraint 25 = .ok (.getfield 37, 3) := by decide +kernel
theorem dX4_putConstraint_28 : decode cX4_putConstraint 28 = .ok (.iload_n 3, 1) := by decide +kernel
theorem dX4_putConstraint_29 : decode cX4_putConstraint 29 = .ok (.iastore, 1) := by decide +kernel
theorem dX4_putConstraint_30 : decode cX4_putConstraint 30 = .ok (.aload_n 0, 1) := by decide +kernel
theorem dX4_putConstraint_31 : decode cX4_putConstraint 31 = .ok (.getfield 27, 3) := by decide +kernel
theorem dX4_putConstraint_34 : decode cX4_putConstraint 34 = .ok (.aload_n 0, 1) := by decide +kernel
theorem dX4_putConstraint_35 : decode cX4_putConstraint 35 = .ok (.getfield 37, 3) := by decide +kernel
theorem dX4_putConstraint_38 : decode cX4_putConstraint 38 = .ok (.iload 4, 2) := by decide +kernel
theorem dX4_putConstraint_40 : decode cX4_putConstraint 40 = .ok (.iastore, 1) := by decide +kernel
theorem dX4_putConstraint_41 : decode cX4_putConstraint 41 = .ok (.aload_n 0, 1) := by decide +kernel
theorem dX4_putConstraint_42 : decode cX4_putConstraint 42 = .ok (.dup, 1) := by decide +kernel
theorem dX4_putConstraint_43 : decode cX4_putConstraint 43 = .ok (.getfield 37, 3) := by decide +kernel
theorem dX4_putConstraint_46 : decode cX4_putConstraint 46 = .ok (.iconst 1, 1) := by decide +kernel
theorem dX4_putConstraint_47 : decode cX4_putConstraint 47 = .ok (.iadd, 1) := by decide +kernel
theorem dX4_putConstraint_48 : decode cX4_putConstraint 48 = .ok (.putfield 37, 3) := by decide +kernel
theorem dX4_putConstraint_51 : decode cX4_putConstraint 51 = .ok (.return_, 1) := by decide +kernel
theorem dX4_dropConstraint_0 : decode cX4_dropConstraint 0 = .ok (.aload_n 0, 1) := by decide +kernel
theorem dX4_dropConstraint_1 : decode cX4_dropConstraint 1 = .ok (.getfield 37, 3) := by decide +kernel
theorem dX4_dropConstraint_4 : decode cX4_dropConstraint 4 = .ok (.iload_n 1, 1) := by decide +kernel
theorem dX4_dropConstraint_5 : decode cX4_dropConstraint 5 = .ok (.isub, 1) := by decide +kernel
theorem dX4_dropConstraint_6 : decode cX4_dropConstraint 6 = .ok (.iconst 1, 1) := by decide +kernel
theorem dX4_dropConstraint_7 : decode cX4_dropConstraint 7 = .ok (.isub, 1) := by decide +kernel
theorem dX4_dropConstraint_8 : decode cX4_dropConstraint 8 = .ok (.istore_n 2, 1) := by decide +kernel
theorem dX4_dropConstraint_9 : decode cX4_dropConstraint 9 = .ok (.aload_n 0, 1) := by decide +kernel
theorem dX4_dropConstraint_10 : decode cX4_dropConstraint 10 = .ok (.getfield 18, 3) := by decide +kernel
theorem dX4_dropConstraint_13 : decode cX4_dropConstraint 13 = .ok (.iload_n 1, 1) := by decide +kernel
theorem dX4_dropConstraint_14 : decode cX4_dropConstraint 14 = .ok (.iconst 1, 1) := by decide +kernel
theorem dX4_dropConstraint_15 : decode cX4_dropConstraint 15 = .ok (.iadd, 1) := by decide +kernel
theorem dX4_dropConstraint_16 : decode cX4_dropConstraint 16 = .ok (.aload_n 0, 1) := by decide +kernel
theorem dX4_dropConstraint_17 : decode cX4_dropConstraint 17 = .ok (.getfield 18, 3) := by decide +kernel
theorem dX4_dropConstraint_20 : decode cX4_dropConstraint 20 = .ok (.iload_n 1, 1) := by decide +kernel
theorem dX4_dropConstraint_21 : decode cX4_dropConstraint 21 = .ok (.iload_n 2, 1) := by decide +kernel
theorem dX4_dropConstraint_22 : decode cX4_dropConstraint 22 = .ok (.invokestatic 40, 3) := by decide +kernel
theorem dX4_dropConstraint_25 : decode cX4_dropConstraint 25 = .ok (.aload_n 0, 1) := by decide +kernel
theorem dX4_dropConstraint_26 : decode cX4_dropConstraint 26 = .ok (.getfield 21, 3) := by decide +kernel
theorem dX4_dropConstraint_29 : decode cX4_dropConstraint 29 = .ok (.iload_n 1, 1) := by decide +kernel
theorem dX4_dropConstraint_30 : decode cX4_dropConstraint 30 = .ok (.iconst 1, 1) := by decide +kernel
theorem dX4_dropConstraint_31 : decode cX4_dropConstraint 31 = .ok (.iadd, 1) := by decide +kernel
theorem dX4_dropConstraint_32 : decode cX4_dropConstraint 32 = .ok (.aload_n 0, 1) := by decide +kernel
theorem dX4_dropConstraint_33 : decode cX4_dropConstraint 33 = .ok (.getfield 21, 3) := by decide +kernel
theorem dX4_dropConstraint_36 : decode cX4_dropConstraint 36 = .ok (.iload_n 1, 1) := by decide +kernel
theorem dX4_dropConstraint_37 : decode cX4_dropConstraint 37 = .ok (.iload_n 2, 1) := by decide +kernel
theorem dX4_dropConstraint_38 : decode cX4_dropConstraint 38 = .ok (.invokestatic 40, 3) := by decide +kernel
theorem dX4_dropConstraint_41 : decode cX4_dropConstraint 41 = .ok (.aload_n 0, 1) := by decide +kernel
theorem dX4_dropConstraint_42 : decode cX4_dropConstraint 42 = .ok (.getfield 24, 3) := by decide +kernel
theorem dX4_dropConstraint_45 : decode cX4_dropConstraint 45 = .ok (.iload_n 1, 1) := by decide +kernel
theorem dX4_dropConstraint_46 : decode cX4_dropConstraint 46 = .ok (.iconst 1, 1) := by decide +kernel
theorem dX4_dropConstraint_47 : decode cX4_dropConstraint 47 = .ok (.iadd, 1) := by decide +kernel
theorem dX4_dropConstraint_48 : decode cX4_dropConstraint 48 = .ok (.aload_n 0, 1) := by decide +kernel
theorem dX4_dropConstraint_49 : decode cX4_dropConstraint 49 = .ok (.getfield 24, 3) := by decide +kernel
theorem dX4_dropConstraint_52 : decode cX4_dropConstraint 52 = .ok (.iload_n 1, 1) := by decide +kernel
theorem dX4_dropConstraint_53 : decode cX4_dropConstraint 53 = .ok (.iload_n 2, 1) := by decide +kernel
theorem dX4_dropConstraint_54 : decode cX4_dropConstraint 54 = .ok (.invokestatic 40, 3) := by decide +kernel
theorem dX4_dropConstraint_57 : decode cX4_dropConstraint 57 = .ok (.aload_n 0, 1) := by decide +kernel
theorem dX4_dropConstraint_58 : decode cX4_dropConstraint 58 = .ok (.getfield 27, 3) := by decide +kernel
theorem dX4_dropConstraint_61 : decode cX4_dropConstraint 61 = .ok (.iload_n 1, 1) := by decide +kernel
theorem dX4_dropConstraint_62 : decode cX4_dropConstraint 62 = .ok (.iconst 1, 1) := by decide +kernel
theorem dX4_dropConstraint_63 : decode cX4_dropConstraint 63 = .ok (.iadd, 1) := by decide +kernel
theorem dX4_dropConstraint_64 : decode cX4_dropConstraint 64 = .ok (.aload_n 0, 1) := by decide +kernel
theorem dX4_dropConstraint_65 : decode cX4_dropConstraint 65 = .ok (.getfield 27, 3) := by decide +kernel
theorem dX4_dropConstraint_68 : decode cX4_dropConstraint 68 = .ok (.iload_n 1, 1) := by decide +kernel
theorem dX4_dropConstraint_69 : decode cX4_dropConstraint 69 = .ok (.iload_n 2, 1) := by decide +kernel
theorem dX4_dropConstraint_70 : decode cX4_dropConstraint 70 = .ok (.invokestatic 40, 3) := by decide +kernel
theorem dX4_dropConstraint_73 : decode cX4_dropConstraint 73 = .ok (.aload_n 0, 1) := by decide +kernel
theorem dX4_dropConstraint_74 : decode cX4_dropConstraint 74 = .ok (.dup, 1) := by decide +kernel
theorem dX4_dropConstraint_75 : decode cX4_dropConstraint 75 = .ok (.getfield 37, 3) := by decide +kernel
theorem dX4_dropConstraint_78 : decode cX4_dropConstraint 78 = .ok (.iconst 1, 1) := by decide +kernel
theorem dX4_dropConstraint_79 : decode cX4_dropConstraint 79 = .ok (.isub, 1) := by decide +kernel
theorem dX4_dropConstraint_80 : decode cX4_dropConstraint 80 = .ok (.putfield 37, 3) := by decide +kernel
theorem dX4_dropConstraint_83 : decode cX4_dropConstraint 83 = .ok (.return_, 1) := by decide +kernel
theorem dX4_combinations_0 : decode cX4_combinations 0 = .ok (.iconst 1, 1) := by decide +kernel
theorem dX4_combinations_1 : decode cX4_combinations 1 = .ok (.istore_n 1, 1) := by decide +kernel
theorem dX4_combinations_2 : decode cX4_combinations 2 = .ok (.iconst 0, 1) := by decide +kernel
theorem dX4_combinations_3 : decode cX4_combinations 3 = .ok (.istore_n 2, 1) := by decide +kernel
theorem dX4_combinations_4 : decode cX4_combinations 4 = .ok (.iload_n 2, 1) := by decide +kernel
theorem dX4_combinations_5 : decode cX4_combinations 5 = .ok (.aload_n 0, 1) := by decide +kernel
theorem dX4_combinations_6 : decode cX4_combinations 6 = .ok (.getfield 33, 3) := by decide +kernel
theorem dX4_combinations_9 : decode cX4_combinations 9 = .ok (.if_icmp .ge 18, 3) := by decide +kernel
theorem dX4_combinations_12 : decode cX4_combinations 12 = .ok (.iload_n 1, 1) := by decide +kernel
theorem dX4_combinations_13 : decode cX4_combinations 13 = .ok (.aload_n 0, 1) := by decide +kernel
theorem dX4_combinations_14 : decode cX4_combinations 14 = .ok (.getfield 9, 3) := by decide +kernel
theorem dX4_combinations_17 : decode cX4_combinations 17 = .ok (.iload_n 2, 1) := by decide +kernel
theorem dX4_combinations_18 : decode cX4_combinations 18 = .ok (.iaload, 1) := by decide +kernel
theorem dX4_combinations_19 : decode cX4_combinations 19 = .ok (.imul, 1) := by decide +kernel
theorem dX4_combinations_20 : decode cX4_combinations 20 = .ok (.istore_n 1, 1) := by decide +kernel
theorem dX4_combinations_21 : decode cX4_combinations 21 = .ok (.iinc 2 1, 3) := by decide +kernel
theorem dX4_combinations_24 : decode cX4_combinations 24 = .ok (.goto (-20), 3) := by decide +kernel
theorem dX4_combinations_27 : decode cX4_combinations 27 = .ok (.iload_n 1, 1) := by decide +kernel
theorem dX4_combinations_28 : decode cX4_combinations 28 = .ok (.ireturn, 1) := by decide +kernel
theorem dX4_presentCost_0 : decode cX4_presentCost 0 = .ok (.aload_n 0, 1) := by decide +kernel
theorem dX4_presentCost_1 : decode cX4_presentCost 1 = .ok (.aload_n 0, 1) := by decide +kernel
theorem dX4_presentCost_2 : decode cX4_presentCost 2 = .ok (.getfield 15, 3) := by decide +kernel
theorem dX4_presentCost_5 : decode cX4_presentCost 5 = .ok (.invokevirtual 46, 3) := by decide +kernel
theorem dX4_presentCost_8 : decode cX4_presentCost 8 = .ok (.ireturn, 1) := by decide +kernel
theorem dX4_costIn_0 : decode cX4_costIn 0 = .ok (.iconst 0, 1) := by decide +kernel
theorem dX4_costIn_1 : decode cX4_costIn 1 = .ok (.istore_n 2, 1) := by decide +kernel
theorem dX4_costIn_2 : decode cX4_costIn 2 = .ok (.iconst 0, 1) := by decide +kernel
theorem dX4_costIn_3 : decode cX4_costIn 3 = .ok (.istore_n 3, 1) := by decide +kernel
theorem dX4_costIn_4 : decode cX4_costIn 4 = .ok (.iload_n 3, 1) := by decide +kernel
theorem dX4_costIn_5 : decode cX4_costIn 5 = .ok (.aload_n 0, 1) := by decide +kernel
theorem dX4_costIn_6 : decode cX4_costIn 6 = .ok (.getfield 37, 3) := by decide +kernel
theorem dX4_costIn_9 : decode cX4_costIn 9 = .ok (.if_icmp .ge 25, 3) := by decide +kernel
theorem dX4_costIn_12 : decode cX4_costIn 12 = .ok (.iload_n 2, 1) := by decide +kernel
theorem dX4_costIn_13 : decode cX4_costIn 13 = .ok (.aload_n 0, 1) := by decide +kernel
theorem dX4_costIn_14 : decode cX4_costIn 14 = .ok (.getfield 27, 3) := by decide +kernel
theorem dX4_costIn_17 : decode cX4_costIn 17 = .ok (.iload_n 3, 1) := by decide +kernel
theorem dX4_costIn_18 : decode cX4_costIn 18 = .ok (.iaload, 1) := by decide +kernel
theorem dX4_costIn_19 : decode cX4_costIn 19 = .ok (.aload_n 0, 1) := by decide +kernel
theorem dX4_costIn_20 : decode cX4_costIn 20 = .ok (.iload_n 3, 1) := by decide +kernel
theorem dX4_costIn_21 : decode cX4_costIn 21 = .ok (.aload_n 1, 1) := by decide +kernel
theorem dX4_costIn_22 : decode cX4_costIn 22 = .ok (.invokevirtual 50, 3) := by decide +kernel
theorem dX4_costIn_25 : decode cX4_costIn 25 = .ok (.imul, 1) := by decide +kernel
theorem dX4_costIn_26 : decode cX4_costIn 26 = .ok (.iadd, 1) := by decide +kernel
theorem dX4_costIn_27 : decode cX4_costIn 27 = .ok (.istore_n 2, 1) := by decide +kernel
theorem dX4_costIn_28 : decode cX4_costIn 28 = .ok (.iinc 3 1, 3) := by decide +kernel
theorem dX4_costIn_31 : decode cX4_costIn 31 = .ok (.goto (-27), 3) := by decide +kernel
theorem dX4_costIn_34 : decode cX4_costIn 34 = .ok (.iload_n 2, 1) := by decide +kernel
theorem dX4_costIn_35 : decode cX4_costIn 35 = .ok (.ireturn, 1) := by decide +kernel
theorem dX4_conflictOf_0 : decode cX4_conflictOf 0 = .ok (.iconst 0, 1) := by decide +kernel
theorem dX4_conflictOf_1 : decode cX4_conflictOf 1 = .ok (.istore_n 2, 1) := by decide +kernel
theorem dX4_conflictOf_2 : decode cX4_conflictOf 2 = .ok (.iconst 0, 1) := by decide +kernel
theorem dX4_conflictOf_3 : decode cX4_conflictOf 3 = .ok (.istore_n 3, 1) := by decide +kernel
theorem dX4_conflictOf_4 : decode cX4_conflictOf 4 = .ok (.iload_n 3, 1) := by decide +kernel
theorem dX4_conflictOf_5 : decode cX4_conflictOf 5 = .ok (.aload_n 0, 1) := by decide +kernel
theorem dX4_conflictOf_6 : decode cX4_conflictOf 6 = .ok (.getfield 37, 3) := by decide +kernel
theorem dX4_conflictOf_9 : decode cX4_conflictOf 9 = .ok (.if_icmp .ge 37, 3) := by decide +kernel
theorem dX4_conflictOf_12 : decode cX4_conflictOf 12 = .ok (.aload_n 0, 1) := by decide +kernel
theorem dX4_conflictOf_13 : decode cX4_conflictOf 13 = .ok (.iload_n 1, 1) := by decide +kernel
theorem dX4_conflictOf_14 : decode cX4_conflictOf 14 = .ok (.iload_n 3, 1) := by decide +kernel
theorem dX4_conflictOf_15 : decode cX4_conflictOf 15 = .ok (.invokevirtual 54, 3) := by decide +kernel
theorem dX4_conflictOf_18 : decode cX4_conflictOf 18 = .ok (.ifCond .eq 22, 3) := by decide +kernel
theorem dX4_conflictOf_21 : decode cX4_conflictOf 21 = .ok (.iload_n 2, 1) := by decide +kernel
theorem dX4_conflictOf_22 : decode cX4_conflictOf 22 = .ok (.aload_n 0, 1) := by decide +kernel
theorem dX4_conflictOf_23 : decode cX4_conflictOf 23 = .ok (.getfield 27, 3) := by decide +kernel
theorem dX4_conflictOf_26 : decode cX4_conflictOf 26 = .ok (.iload_n 3, 1) := by decide +kernel
theorem dX4_conflictOf_27 : decode cX4_conflictOf 27 = .ok (.iaload, 1) := by decide +kernel
theorem dX4_conflictOf_28 : decode cX4_conflictOf 28 = .ok (.aload_n 0, 1) := by decide +kernel
theorem dX4_conflictOf_29 : decode cX4_conflictOf 29 = .ok (.iload_n 3, 1) := by decide +kernel
theorem dX4_conflictOf_30 : decode cX4_conflictOf 30 = .ok (.aload_n 0, 1) := by decide +kernel
theorem dX4_conflictOf_31 : decode cX4_conflictOf 31 = .ok (.getfield 15, 3) := by decide +kernel
theorem dX4_conflictOf_34 : decode cX4_conflictOf 34 = .ok (.invokevirtual 50, 3) := by decide +kernel
theorem dX4_conflictOf_37 : decode cX4_conflictOf 37 = .ok (.imul, 1) := by decide +kernel
theorem dX4_conflictOf_38 : decode cX4_conflictOf 38 = .ok (.iadd, 1) := by decide +kernel
theorem dX4_conflictOf_39 : decode cX4_conflictOf 39 = .ok (.istore_n 2, 1) := by decide +kernel
theorem dX4_conflictOf_40 : decode cX4_conflictOf 40 = .ok (.iinc 3 1, 3) := by decide +kernel
theorem dX4_conflictOf_43 : decode cX4_conflictOf 43 = .ok (.goto (-39), 3) := by decide +kernel
theorem dX4_conflictOf_46 : decode cX4_conflictOf 46 = .ok (.iload_n 2, 1) := by decide +kernel
theorem dX4_conflictOf_47 : decode cX4_conflictOf 47 = .ok (.ireturn, 1) := by decide +kernel
theorem dX4_membershipsOf_0 : decode cX4_membershipsOf 0 = .ok (.iconst 0, 1) := by decide +kernel
theorem dX4_membershipsOf_1 : decode cX4_membershipsOf 1 = .ok (.istore_n 2, 1) := by decide +kernel
theorem dX4_membershipsOf_2 : decode cX4_membershipsOf 2 = .ok (.iconst 0, 1) := by decide +kernel
theorem dX4_membershipsOf_3 : decode cX4_membershipsOf 3 = .ok (.istore_n 3, 1) := by decide +kernel
theorem dX4_membershipsOf_4 : decode cX4_membershipsOf 4 = .ok (.iload_n 3, 1) := by decide +kernel
theorem dX4_membershipsOf_5 : decode cX4_membershipsOf 5 = .ok (.aload_n 0, 1) := by decide +kernel
theorem dX4_membershipsOf_6 : decode cX4_membershipsOf 6 = .ok (.getfield 37, 3) := by decide +kernel
theorem dX4_membershipsOf_9 : decode cX4_membershipsOf 9 = .ok (.if_icmp .ge 21, 3) := by decide +kernel
theorem dX4_membershipsOf_12 : decode cX4_membershipsOf 12 = .ok (.aload_n 0, 1) := by decide +kernel
theorem dX4_membershipsOf_13 : decode cX4_membershipsOf 13 = .ok (.iload_n 1, 1) := by decide +kernel
theorem dX4_membershipsOf_14 : decode cX4_membershipsOf 14 = .ok (.iload_n 3, 1) := by decide +kernel
theorem dX4_membershipsOf_15 : decode cX4_membershipsOf 15 = .ok (.invokevirtual 54, 3) := by decide +kernel
theorem dX4_membershipsOf_18 : decode cX4_membershipsOf 18 = .ok (.ifCond .eq 6, 3) := by decide +kernel
theorem dX4_membershipsOf_21 : decode cX4_membershipsOf 21 = .ok (.iinc 2 1, 3) := by decide +kernel
theorem dX4_membershipsOf_24 : decode cX4_membershipsOf 24 = .ok (.iinc 3 1, 3) := by decide +kernel
theorem dX4_membershipsOf_27 : decode cX4_membershipsOf 27 = .ok (.goto (-23), 3) := by decide +kernel
theorem dX4_membershipsOf_30 : decode cX4_membershipsOf 30 = .ok (.iload_n 2, 1) := by decide +kernel
theorem dX4_membershipsOf_31 : decode cX4_membershipsOf 31 = .ok (.ireturn, 1) := by decide +kernel
theorem dX4_violatedConstraints_0 : decode cX4_violatedConstraints 0 = .ok (.iconst 0, 1) := by decide +kernel
theorem dX4_violatedConstraints_1 : decode cX4_violatedConstraints 1 = .ok (.istore_n 1, 1) := by decide +kernel
theorem dX4_violatedConstraints_2 : decode cX4_violatedConstraints 2 = .ok (.iconst 0, 1) := by decide +kernel
theorem dX4_violatedConstraints_3 : decode cX4_violatedConstraints 3 = .ok (.istore_n 2, 1) := by decide +kernel
theorem dX4_violatedConstraints_4 : decode cX4_violatedConstraints 4 = .ok (.iload_n 2, 1) := by decide +kernel
theorem dX4_violatedConstraints_5 : decode cX4_violatedConstraints 5 = .ok (.aload_n 0, 1) := by decide +kernel
theorem dX4_violatedConstraints_6 : decode cX4_violatedConstraints 6 = .ok (.getfield 37, 3) := by decide +kernel
theorem dX4_violatedConstraints_9 : decode cX4_violatedConstraints 9 = .ok (.if_icmp .ge 24, 3) := by decide +kernel
theorem dX4_violatedConstraints_12 : decode cX4_violatedConstraints 12 = .ok (.aload_n 0, 1) := by decide +kernel
theorem dX4_violatedConstraints_13 : decode cX4_violatedConstraints 13 = .ok (.iload_n 2, 1) := by decide +kernel
theorem dX4_violatedConstraints_14 : decode cX4_violatedConstraints 14 = .ok (.aload_n 0, 1) := by decide +kernel
theorem dX4_violatedConstraints_15 : decode cX4_violatedConstraints 15 = .ok (.getfield 15, 3) := by decide +kernel
theorem dX4_violatedConstraints_18 : decode cX4_violatedConstraints 18 = .ok (.invokevirtual 50, 3) := by decide +kernel
theorem dX4_violatedConstraints_21 : decode cX4_violatedConstraints 21 = .ok (.ifCond .le 6, 3) := by decide +kernel
theorem dX4_violatedConstraints_24 : decode cX4_violatedConstraints 24 = .ok (.iinc 1 1, 3) := by decide +kernel
theorem dX4_violatedConstraints_27 : decode cX4_violatedConstraints 27 = .ok (.iinc 2 1, 3) := by decide +kernel
theorem dX4_violatedConstraints_30 : decode cX4_violatedConstraints 30 = .ok (.goto (-26), 3) := by decide +kernel
theorem dX4_violatedConstraints_33 : decode cX4_violatedConstraints 33 = .ok (.iload_n 1, 1) := by decide +kernel
theorem dX4_violatedConstraints_34 : decode cX4_violatedConstraints 34 = .ok (.ireturn, 1) := by decide +kernel
theorem dX4_isMember_0 : decode cX4_isMember 0 = .ok (.aload_n 0, 1) := by decide +kernel
theorem dX4_isMember_1 : decode cX4_isMember 1 = .ok (.getfield 21, 3) := by decide +kernel
theorem dX4_isMember_4 : decode cX4_isMember 4 = .ok (.iload_n 2, 1) := by decide +kernel
theorem dX4_isMember_5 : decode cX4_isMember 5 = .ok (.iaload, 1) := by decide +kernel
theorem dX4_isMember_6 : decode cX4_isMember 6 = .ok (.iload_n 1, 1) := by decide +kernel
theorem dX4_isMember_7 : decode cX4_isMember 7 = .ok (.ishr, 1) := by decide +kernel
theorem dX4_isMember_8 : decode cX4_isMember 8 = .ok (.iconst 1, 1) := by decide +kernel
theorem dX4_isMember_9 : decode cX4_isMember 9 = .ok (.iand, 1) := by decide +kernel
theorem dX4_isMember_10 : decode cX4_isMember 10 = .ok (.ifCond .eq 7, 3) := by decide +kernel
theorem dX4_isMember_13 : decode cX4_isMember 13 = .ok (.iconst 1, 1) := by decide +kernel
theorem dX4_isMember_14 : decode cX4_isMember 14 = .ok (.goto 4, 3) := by decide +kernel
theorem dX4_isMember_17 : decode cX4_isMember 17 = .ok (.iconst 0, 1) := by decide +kernel
theorem dX4_isMember_18 : decode cX4_isMember 18 = .ok (.ireturn, 1) := by decide +kernel
theorem dX4_violationIn_0 : decode cX4_violationIn 0 = .ok (.aload_n 0, 1) := by decide +kernel
theorem dX4_violationIn_1 : decode cX4_violationIn 1 = .ok (.iload_n 1, 1) := by decide +kernel
theorem dX4_violationIn_2 : decode cX4_violationIn 2 = .ok (.aload_n 2, 1) := by decide +kernel
theorem dX4_violationIn_3 : decode cX4_violationIn 3 = .ok (.invokevirtual 58, 3) := by decide +kernel
theorem dX4_violationIn_6 : decode cX4_violationIn 6 = .ok (.istore_n 3, 1) := by decide +kernel
theorem dX4_violationIn_7 : decode cX4_violationIn 7 = .ok (.aload_n 0, 1) := by decide +kernel
theorem dX4_violationIn_8 : decode cX4_violationIn 8 = .ok (.getfield 24, 3) := by decide +kernel
theorem dX4_violationIn_11 : decode cX4_violationIn 11 = .ok (.iload_n 1, 1) := by decide +kernel
theorem dX4_violationIn_12 : decode cX4_violationIn 12 = .ok (.iaload, 1) := by decide +kernel
theorem dX4_violationIn_13 : decode cX4_violationIn 13 = .ok (.istore 4, 2) := by decide +kernel
theorem dX4_violationIn_15 : decode cX4_violationIn 15 = .ok (.aload_n 0, 1) := by decide +kernel
theorem dX4_violationIn_16 : decode cX4_violationIn 16 = .ok (.getfield 18, 3) := by decide +kernel
theorem dX4_violationIn_19 : decode cX4_violationIn 19 = .ok (.iload_n 1, 1) := by decide +kernel
theorem dX4_violationIn_20 : decode cX4_violationIn 20 = .ok (.iaload, 1) := by decide +kernel
theorem dX4_violationIn_21 : decode cX4_violationIn 21 = .ok (.tableswitch 99 0 5 #[39, 46, 59, 71, 79, 91], 39) := by decide +kernel
theorem dX4_violationIn_60 : decode cX4_violationIn 60 = .ok (.aload_n 0, 1) := by decide +kernel
theorem dX4_violationIn_61 : decode cX4_violationIn 61 = .ok (.iload_n 3, 1) := by decide +kernel
theorem dX4_violationIn_62 : decode cX4_violationIn 62 = .ok (.iconst 1, 1) := by decide +kernel
theorem dX4_violationIn_63 : decode cX4_violationIn 63 = .ok (.invokevirtual 61, 3) := by decide +kernel
theorem dX4_violationIn_66 : decode cX4_violationIn 66 = .ok (.ireturn, 1) := by decide +kernel
theorem dX4_violationIn_67 : decode cX4_violationIn 67 = .ok (.iconst 0, 1) := by decide +kernel
theorem dX4_violationIn_68 : decode cX4_violationIn 68 = .ok (.aload_n 0, 1) := by decide +kernel
theorem dX4_violationIn_69 : decode cX4_violationIn 69 = .ok (.iload_n 3, 1) := by decide +kernel
theorem dX4_violationIn_70 : decode cX4_violationIn 70 = .ok (.invokevirtual 65, 3) := by decide +kernel
theorem dX4_violationIn_73 : decode cX4_violationIn 73 = .ok (.iload 4, 2) := by decide +kernel
theorem dX4_violationIn_75 : decode cX4_violationIn 75 = .ok (.isub, 1) := by decide +kernel
theorem dX4_violationIn_76 : decode cX4_violationIn 76 = .ok (.invokestatic 69, 3) := by decide +kernel
theorem dX4_violationIn_79 : decode cX4_violationIn 79 = .ok (.ireturn, 1) := by decide +kernel
theorem dX4_violationIn_80 : decode cX4_violationIn 80 = .ok (.aload_n 0, 1) := by decide +kernel
theorem dX4_violationIn_81 : decode cX4_violationIn 81 = .ok (.iload_n 3, 1) := by decide +kernel
theorem dX4_violationIn_82 : decode cX4_violationIn 82 = .ok (.invokevirtual 65, 3) := by decide +kernel
theorem dX4_violationIn_85 : decode cX4_violationIn 85 = .ok (.iload 4, 2) := by decide +kernel
theorem dX4_violationIn_87 : decode cX4_violationIn 87 = .ok (.isub, 1) := by decide +kernel
theorem dX4_violationIn_88 : decode cX4_violationIn 88 = .ok (.invokestatic 74, 3) := by decide +kernel
theorem dX4_violationIn_91 : decode cX4_violationIn 91 = .ok (.ireturn, 1) := by decide +kernel
theorem dX4_violationIn_92 : decode cX4_violationIn 92 = .ok (.aload_n 0, 1) := by decide +kernel
theorem dX4_violationIn_93 : decode cX4_violationIn 93 = .ok (.iload_n 3, 1) := by decide +kernel
theorem dX4_violationIn_94 : decode cX4_violationIn 94 = .ok (.iload 4, 2) := by decide +kernel
theorem dX4_violationIn_96 : decode cX4_violationIn 96 = .ok (.invokevirtual 77, 3) := by decide +kernel
theorem dX4_violationIn_99 : decode cX4_violationIn 99 = .ok (.ireturn, 1) := by decide +kernel
theorem dX4_violationIn_100 : decode cX4_violationIn 100 = .ok (.aload_n 0, 1) := by decide +kernel
theorem dX4_violationIn_101 : decode cX4_violationIn 101 = .ok (.iload_n 3, 1) := by decide +kernel
theorem dX4_violationIn_102 : decode cX4_violationIn 102 = .ok (.invokevirtual 80, 3) := by decide +kernel
theorem dX4_violationIn_105 : decode cX4_violationIn 105 = .ok (.iload 4, 2) := by decide +kernel
theorem dX4_violationIn_107 : decode cX4_violationIn 107 = .ok (.isub, 1) := by decide +kernel
theorem dX4_violationIn_108 : decode cX4_violationIn 108 = .ok (.invokestatic 74, 3) := by decide +kernel
theorem dX4_violationIn_111 : decode cX4_violationIn 111 = .ok (.ireturn, 1) := by decide +kernel
theorem dX4_violationIn_112 : decode cX4_violationIn 112 = .ok (.aload_n 0, 1) := by decide +kernel
theorem dX4_violationIn_113 : decode cX4_violationIn 113 = .ok (.iload_n 3, 1) := by decide +kernel
theorem dX4_violationIn_114 : decode cX4_violationIn 114 = .ok (.iload 4, 2) := by decide +kernel
theorem dX4_violationIn_116 : decode cX4_violationIn 116 = .ok (.invokevirtual 61, 3) := by decide +kernel
theorem dX4_violationIn_119 : decode cX4_violationIn 119 = .ok (.ireturn, 1) := by decide +kernel
theorem dX4_violationIn_120 : decode cX4_violationIn 120 = .ok (.iconst 0, 1) := by decide +kernel
theorem dX4_violationIn_121 : decode cX4_violationIn 121 = .ok (.ireturn, 1) := by decide +kernel
theorem dX4_gather_0 : decode cX4_gather 0 = .ok (.aload_n 0, 1) := by decide +kernel
theorem dX4_gather_1 : decode cX4_gather 1 = .ok (.getfield 21, 3) := by decide +kernel
theorem dX4_gather_4 : decode cX4_gather 4 = .ok (.iload_n 1, 1) := by decide +kernel
theorem dX4_gather_5 : decode cX4_gather 5 = .ok (.iaload, 1) := by decide +kernel
theorem dX4_gather_6 : decode cX4_gather 6 = .ok (.istore_n 3, 1) := by decide +kernel
theorem dX4_gather_7 : decode cX4_gather 7 = .ok (.iconst 0, 1) := by decide +kernel
theorem dX4_gather_8 : decode cX4_gather 8 = .ok (.istore 4, 2) := by decide +kernel
theorem dX4_gather_10 : decode cX4_gather 10 = .ok (.iconst 0, 1) := by decide +kernel
theorem dX4_gather_11 : decode cX4_gather 11 = .ok (.istore 5, 2) := by decide +kernel
theorem dX4_gather_13 : decode cX4_gather 13 = .ok (.iload 5, 2) := by decide +kernel
theorem dX4_gather_15 : decode cX4_gather 15 = .ok (.aload_n 0, 1) := by decide +kernel
theorem dX4_gather_16 : decode cX4_gather 16 = .ok (.getfield 33, 3) := by decide +kernel
theorem dX4_gather_19 : decode cX4_gather 19 = .ok (.if_icmp .ge 32, 3) := by decide +kernel
theorem dX4_gather_22 : decode cX4_gather 22 = .ok (.iload_n 3, 1) := by decide +kernel
theorem dX4_gather_23 : decode cX4_gather 23 = .ok (.iload 5, 2) := by decide +kernel
theorem dX4_gather_25 : decode cX4_gather 25 = .ok (.ishr, 1) := by decide +kernel
theorem dX4_gather_26 : decode cX4_gather 26 = .ok (.iconst 1, 1) := by decide +kernel
theorem dX4_gather_27 : decode cX4_gather 27 = .ok (.iand, 1) := by decide +kernel
theorem dX4_gather_28 : decode cX4_gather 28 = .ok (.ifCond .eq 17, 3) := by decide +kernel
theorem dX4_gather_31 : decode cX4_gather 31 = .ok (.aload_n 0, 1) := by decide +kernel
theorem dX4_gather_32 : decode cX4_gather 32 = .ok (.getfield 30, 3) := by decide +kernel
theorem dX4_gather_35 : decode cX4_gather 35 = .ok (.iload 4, 2) := by decide +kernel
theorem dX4_gather_37 : decode cX4_gather 37 = .ok (.aload_n 2, 1) := by decide +kernel
theorem dX4_gather_38 : decode cX4_gather 38 = .ok (.iload 5, 2) := by decide +kernel
theorem dX4_gather_40 : decode cX4_gather 40 = .ok (.iaload, 1) := by decide +kernel
theorem dX4_gather_41 : decode cX4_gather 41 = .ok (.iastore, 1) := by decide +kernel
theorem dX4_gather_42 : decode cX4_gather 42 = .ok (.iinc 4 1, 3) := by decide +kernel
theorem dX4_gather_45 : decode cX4_gather 45 = .ok (.iinc 5 1, 3) := by decide +kernel
theorem dX4_gather_48 : decode cX4_gather 48 = .ok (.goto (-35), 3) := by decide +kernel
theorem dX4_gather_51 : decode cX4_gather 51 = .ok (.iload 4, 2) := by decide +kernel
theorem dX4_gather_53 : decode cX4_gather 53 = .ok (.ireturn, 1) := by decide +kernel
theorem dX4_sum_0 : decode cX4_sum 0 = .ok (.iconst 0, 1) := by decide +kernel
theorem dX4_sum_1 : decode cX4_sum 1 = .ok (.istore_n 2, 1) := by decide +kernel
theorem dX4_sum_2 : decode cX4_sum 2 = .ok (.iconst 0, 1) := by decide +kernel
theorem dX4_sum_3 : decode cX4_sum 3 = .ok (.istore_n 3, 1) := by decide +kernel
theorem dX4_sum_4 : decode cX4_sum 4 = .ok (.iload_n 3, 1) := by decide +kernel
theorem dX4_sum_5 : decode cX4_sum 5 = .ok (.iload_n 1, 1) := by decide +kernel
theorem dX4_sum_6 : decode cX4_sum 6 = .ok (.if_icmp .ge 18, 3) := by decide +kernel
theorem dX4_sum_9 : decode cX4_sum 9 = .ok (.iload_n 2, 1) := by decide +kernel
theorem dX4_sum_10 : decode cX4_sum 10 = .ok (.aload_n 0, 1) := by decide +kernel
theorem dX4_sum_11 : decode cX4_sum 11 = .ok (.getfield 30, 3) := by decide +kernel
theorem dX4_sum_14 : decode cX4_sum 14 = .ok (.iload_n 3, 1) := by decide +kernel
theorem dX4_sum_15 : decode cX4_sum 15 = .ok (.iaload, 1) := by decide +kernel
theorem dX4_sum_16 : decode cX4_sum 16 = .ok (.iadd, 1) := by decide +kernel
theorem dX4_sum_17 : decode cX4_sum 17 = .ok (.istore_n 2, 1) := by decide +kernel
theorem dX4_sum_18 : decode cX4_sum 18 = .ok (.iinc 3 1, 3) := by decide +kernel
theorem dX4_sum_21 : decode cX4_sum 21 = .ok (.goto (-17), 3) := by decide +kernel
theorem dX4_sum_24 : decode cX4_sum 24 = .ok (.iload_n 2, 1) := by decide +kernel
theorem dX4_sum_25 : decode cX4_sum 25 = .ok (.ireturn, 1) := by decide +kernel
theorem dX4_zeros_0 : decode cX4_zeros 0 = .ok (.iconst 0, 1) := by decide +kernel
theorem dX4_zeros_1 : decode cX4_zeros 1 = .ok (.istore_n 2, 1) := by decide +kernel
theorem dX4_zeros_2 : decode cX4_zeros 2 = .ok (.iconst 0, 1) := by decide +kernel
theorem dX4_zeros_3 : decode cX4_zeros 3 = .ok (.istore_n 3, 1) := by decide +kernel
theorem dX4_zeros_4 : decode cX4_zeros 4 = .ok (.iload_n 3, 1) := by decide +kernel
theorem dX4_zeros_5 : decode cX4_zeros 5 = .ok (.iload_n 1, 1) := by decide +kernel
theorem dX4_zeros_6 : decode cX4_zeros 6 = .ok (.if_icmp .ge 21, 3) := by decide +kernel
theorem dX4_zeros_9 : decode cX4_zeros 9 = .ok (.aload_n 0, 1) := by decide +kernel
theorem dX4_zeros_10 : decode cX4_zeros 10 = .ok (.getfield 30, 3) := by decide +kernel
theorem dX4_zeros_13 : decode cX4_zeros 13 = .ok (.iload_n 3, 1) := by decide +kernel
theorem dX4_zeros_14 : decode cX4_zeros 14 = .ok (.iaload, 1) := by decide +kernel
theorem dX4_zeros_15 : decode cX4_zeros 15 = .ok (.ifCond .ne 6, 3) := by decide +kernel
theorem dX4_zeros_18 : decode cX4_zeros 18 = .ok (.iinc 2 1, 3) := by decide +kernel
theorem dX4_zeros_21 : decode cX4_zeros 21 = .ok (.iinc 3 1, 3) := by decide +kernel
theorem dX4_zeros_24 : decode cX4_zeros 24 = .ok (.goto (-20), 3) := by decide +kernel
theorem dX4_zeros_27 : decode cX4_zeros 27 = .ok (.iload_n 2, 1) := by decide +kernel
theorem dX4_zeros_28 : decode cX4_zeros 28 = .ok (.ireturn, 1) := by decide +kernel
theorem dX4_descents_0 : decode cX4_descents 0 = .ok (.iconst 0, 1) := by decide +kernel
theorem dX4_descents_1 : decode cX4_descents 1 = .ok (.istore_n 3, 1) := by decide +kernel
theorem dX4_descents_2 : decode cX4_descents 2 = .ok (.iconst 1, 1) := by decide +kernel
theorem dX4_descents_3 : decode cX4_descents 3 = .ok (.istore 4, 2) := by decide +kernel
theorem dX4_descents_5 : decode cX4_descents 5 = .ok (.iload 4, 2) := by decide +kernel
theorem dX4_descents_7 : decode cX4_descents 7 = .ok (.iload_n 1, 1) := by decide +kernel
theorem dX4_descents_8 : decode cX4_descents 8 = .ok (.if_icmp .ge 33, 3) := by decide +kernel
theorem dX4_descents_11 : decode cX4_descents 11 = .ok (.aload_n 0, 1) := by decide +kernel
theorem dX4_descents_12 : decode cX4_descents 12 = .ok (.getfield 30, 3) := by decide +kernel
theorem dX4_descents_15 : decode cX4_descents 15 = .ok (.iload 4, 2) := by decide +kernel
theorem dX4_descents_17 : decode cX4_descents 17 = .ok (.iaload, 1) := by decide +kernel
theorem dX4_descents_18 : decode cX4_descents 18 = .ok (.iload_n 2, 1) := by decide +kernel
theorem dX4_descents_19 : decode cX4_descents 19 = .ok (.aload_n 0, 1) := by decide +kernel
theorem dX4_descents_20 : decode cX4_descents 20 = .ok (.getfield 30, 3) := by decide +kernel
theorem dX4_descents_23 : decode cX4_descents 23 = .ok (.iload 4, 2) := by decide +kernel
theorem dX4_descents_25 : decode cX4_descents 25 = .ok (.iconst 1, 1) := by decide +kernel
theorem dX4_descents_26 : decode cX4_descents 26 = .ok (.isub, 1) := by decide +kernel
theorem dX4_descents_27 : decode cX4_descents 27 = .ok (.iaload, 1) := by decide +kernel
theorem dX4_descents_28 : decode cX4_descents 28 = .ok (.iadd, 1) := by decide +kernel
theorem dX4_descents_29 : decode cX4_descents 29 = .ok (.if_icmp .ge 6, 3) := by decide +kernel
theorem dX4_descents_32 : decode cX4_descents 32 = .ok (.iinc 3 1, 3) := by decide +kernel
theorem dX4_descents_35 : decode cX4_descents 35 = .ok (.iinc 4 1, 3) := by decide +kernel
theorem dX4_descents_38 : decode cX4_descents 38 = .ok (.goto (-33), 3) := by decide +kernel
theorem dX4_descents_41 : decode cX4_descents 41 = .ok (.iload_n 3, 1) := by decide +kernel
theorem dX4_descents_42 : decode cX4_descents 42 = .ok (.ireturn, 1) := by decide +kernel
theorem dX4_closePairs_0 : decode cX4_closePairs 0 = .ok (.iconst 0, 1) := by decide +kernel
theorem dX4_closePairs_1 : decode cX4_closePairs 1 = .ok (.istore_n 3, 1) := by decide +kernel
theorem dX4_closePairs_2 : decode cX4_closePairs 2 = .ok (.iconst 1, 1) := by decide +kernel
theorem dX4_closePairs_3 : decode cX4_closePairs 3 = .ok (.istore 4, 2) := by decide +kernel
theorem dX4_closePairs_5 : decode cX4_closePairs 5 = .ok (.iload 4, 2) := by decide +kernel
theorem dX4_closePairs_7 : decode cX4_closePairs 7 = .ok (.iload_n 1, 1) := by decide +kernel
theorem dX4_closePairs_8 : decode cX4_closePairs 8 = .ok (.if_icmp .ge 50, 3) := by decide +kernel
theorem dX4_closePairs_11 : decode cX4_closePairs 11 = .ok (.iconst 0, 1) := by decide +kernel
theorem dX4_closePairs_12 : decode cX4_closePairs 12 = .ok (.istore 5, 2) := by decide +kernel
theorem dX4_closePairs_14 : decode cX4_closePairs 14 = .ok (.iload 5, 2) := by decide +kernel
theorem dX4_closePairs_16 : decode cX4_closePairs 16 = .ok (.iload 4, 2) := by decide +kernel
theorem dX4_closePairs_18 : decode cX4_closePairs 18 = .ok (.if_icmp .ge 34, 3) := by decide +kernel
theorem dX4_closePairs_21 : decode cX4_closePairs 21 = .ok (.aload_n 0, 1) := by decide +kernel
theorem dX4_closePairs_22 : decode cX4_closePairs 22 = .ok (.getfield 30, 3) := by decide +kernel
theorem dX4_closePairs_25 : decode cX4_closePairs 25 = .ok (.iload 4, 2) := by decide +kernel
theorem dX4_closePairs_27 : decode cX4_closePairs 27 = .ok (.iaload, 1) := by decide +kernel
theorem dX4_closePairs_28 : decode cX4_closePairs 28 = .ok (.aload_n 0, 1) := by decide +kernel
theorem dX4_closePairs_29 : decode cX4_closePairs 29 = .ok (.getfield 30, 3) := by decide +kernel
theorem dX4_closePairs_32 : decode cX4_closePairs 32 = .ok (.iload 5, 2) := by decide +kernel
theorem dX4_closePairs_34 : decode cX4_closePairs 34 = .ok (.iaload, 1) := by decide +kernel
theorem dX4_closePairs_35 : decode cX4_closePairs 35 = .ok (.isub, 1) := by decide +kernel
theorem dX4_closePairs_36 : decode cX4_closePairs 36 = .ok (.invokestatic 74, 3) := by decide +kernel
theorem dX4_closePairs_39 : decode cX4_closePairs 39 = .ok (.iload_n 2, 1) := by decide +kernel
theorem dX4_closePairs_40 : decode cX4_closePairs 40 = .ok (.if_icmp .ge 6, 3) := by decide +kernel
theorem dX4_closePairs_43 : decode cX4_closePairs 43 = .ok (.iinc 3 1, 3) := by decide +kernel
theorem dX4_closePairs_46 : decode cX4_closePairs 46 = .ok (.iinc 5 1, 3) := by decide +kernel
theorem dX4_closePairs_49 : decode cX4_closePairs 49 = .ok (.goto (-35), 3) := by decide +kernel
theorem dX4_closePairs_52 : decode cX4_closePairs 52 = .ok (.iinc 4 1, 3) := by decide +kernel
theorem dX4_closePairs_55 : decode cX4_closePairs 55 = .ok (.goto (-50), 3) := by decide +kernel
theorem dX4_closePairs_58 : decode cX4_closePairs 58 = .ok (.iload_n 3, 1) := by decide +kernel
theorem dX4_closePairs_59 : decode cX4_closePairs 59 = .ok (.ireturn, 1) := by decide +kernel
theorem dX5_init_0 : decode cX5_init 0 = .ok (.aload_n 0, 1) := by decide +kernel
theorem dX5_init_1 : decode cX5_init 1 = .ok (.invokespecial 3, 3) := by decide +kernel
theorem dX5_init_4 : decode cX5_init 4 = .ok (.aload_n 0, 1) := by decide +kernel
theorem dX5_init_5 : decode cX5_init 5 = .ok (.bipush 15, 2) := by decide +kernel
theorem dX5_init_7 : decode cX5_init 7 = .ok (.putfield 9, 3) := by decide +kernel
theorem dX5_init_10 : decode cX5_init 10 = .ok (.aload_n 0, 1) := by decide +kernel
theorem dX5_init_11 : decode cX5_init 11 = .ok (.iconst 3, 1) := by decide +kernel
theorem dX5_init_12 : decode cX5_init 12 = .ok (.putfield 15, 3) := by decide +kernel
theorem dX5_init_15 : decode cX5_init 15 = .ok (.aload_n 0, 1) := by decide +kernel
theorem dX5_init_16 : decode cX5_init 16 = .ok (.bipush 20, 2) := by decide +kernel
theorem dX5_init_18 : decode cX5_init 18 = .ok (.putfield 18, 3) := by decide +kernel
theorem dX5_init_21 : decode cX5_init 21 = .ok (.aload_n 0, 1) := by decide +kernel
theorem dX5_init_22 : decode cX5_init 22 = .ok (.iconst 1, 1) := by decide +kernel
theorem dX5_init_23 : decode cX5_init 23 = .ok (.putfield 21, 3) := by decide +kernel
theorem dX5_init_26 : decode cX5_init 26 = .ok (.return_, 1) := by decide +kernel
theorem dX5_reset_0 : decode cX5_reset 0 = .ok (.aload_n 0, 1) := by decide +kernel
theorem dX5_reset_1 : decode cX5_reset 1 = .ok (.bipush 15, 2) := by decide +kernel
theorem dX5_reset_3 : decode cX5_reset 3 = .ok (.putfield 9, 3) := by decide +kernel
theorem dX5_reset_6 : decode cX5_reset 6 = .ok (.aload_n 0, 1) := by decide +kernel
theorem dX5_reset_7 : decode cX5_reset 7 = .ok (.iconst 3, 1) := by decide +kernel
theorem dX5_reset_8 : decode cX5_reset 8 = .ok (.putfield 15, 3) := by decide +kernel
theorem dX5_reset_11 : decode cX5_reset 11 = .ok (.aload_n 0, 1) := by decide +kernel
theorem dX5_reset_12 : decode cX5_reset 12 = .ok (.bipush 20, 2) := by decide +kernel
theorem dX5_reset_14 : decode cX5_reset 14 = .ok (.putfield 18, 3) := by decide +kernel
theorem dX5_reset_17 : decode cX5_reset 17 = .ok (.aload_n 0, 1) := by decide +kernel
theorem dX5_reset_18 : decode cX5_reset 18 = .ok (.iconst 1, 1) := by decide +kernel
theorem dX5_reset_19 : decode cX5_reset 19 = .ok (.putfield 21, 3) := by decide +kernel
theorem dX5_reset_22 : decode cX5_reset 22 = .ok (.return_, 1) := by decide +kernel
theorem dX5_nextSeed_0 : decode cX5_nextSeed 0 = .ok (.aload_n 0, 1) := by decide +kernel
theorem dX5_nextSeed_1 : decode cX5_nextSeed 1 = .ok (.aload_n 0, 1) := by decide +kernel
theorem dX5_nextSeed_2 : decode cX5_nextSeed 2 = .ok (.getfield 21, 3) := by decide +kernel
theorem dX5_nextSeed_5 : decode cX5_nextSeed 5 = .ok (.ldc 24, 2) := by decide +kernel
theorem dX5_nextSeed_7 : decode cX5_nextSeed 7 = .ok (.imul, 1) := by decide +kernel
theorem dX5_nextSeed_8 : decode cX5_nextSeed 8 = .ok (.sipush 12345, 3) := by decide +kernel
theorem dX5_nextSeed_11 : decode cX5_nextSeed 11 = .ok (.iadd, 1) := by decide +kernel
theorem dX5_nextSeed_12 : decode cX5_nextSeed 12 = .ok (.ldc 25, 2) := by decide +kernel
theorem dX5_nextSeed_14 : decode cX5_nextSeed 14 = .ok (.iand, 1) := by decide +kernel
theorem dX5_nextSeed_15 : decode cX5_nextSeed 15 = .ok (.putfield 21, 3) := by decide +kernel
theorem dX5_nextSeed_18 : decode cX5_nextSeed 18 = .ok (.aload_n 0, 1) := by decide +kernel
theorem dX5_nextSeed_19 : decode cX5_nextSeed 19 = .ok (.getfield 21, 3) := by decide +kernel
theorem dX5_nextSeed_22 : decode cX5_nextSeed 22 = .ok (.ireturn, 1) := by decide +kernel
theorem dX6_init_0 : decode cX6_init 0 = .ok (.aload_n 0, 1) := by decide +kernel
theorem dX6_init_1 : decode cX6_init 1 = .ok (.invokespecial 3, 3) := by decide +kernel
theorem dX6_init_4 : decode cX6_init 4 = .ok (.aload_n 0, 1) := by decide +kernel
theorem dX6_init_5 : decode cX6_init 5 = .ok (.bipush 7, 2) := by decide +kernel
theorem dX6_init_7 : decode cX6_init 7 = .ok (.bipush 40, 2) := by decide +kernel
theorem dX6_init_9 : decode cX6_init 9 = .ok (.multianewarray 11 2, 4) := by decide +kernel
theorem dX6_init_13 : decode cX6_init 13 = .ok (.putfield 13, 3) := by decide +kernel
theorem dX6_init_16 : decode cX6_init 16 = .ok (.aload_n 0, 1) := by decide +kernel
theorem dX6_init_17 : decode cX6_init 17 = .ok (.iconst 0, 1) := by decide +kernel
theorem dX6_init_18 : decode cX6_init 18 = .ok (.putfield 16, 3) := by decide +kernel
theorem dX6_init_21 : decode cX6_init 21 = .ok (.aload_n 0, 1) := by decide +kernel
theorem dX6_init_22 : decode cX6_init 22 = .ok (.iconst 0, 1) := by decide +kernel
theorem dX6_init_23 : decode cX6_init 23 = .ok (.putfield 20, 3) := by decide +kernel
theorem dX6_init_26 : decode cX6_init 26 = .ok (.return_, 1) := by decide +kernel
theorem dX6_forget_0 : decode cX6_forget 0 = .ok (.aload_n 0, 1) := by decide +kernel
theorem dX6_forget_1 : decode cX6_forget 1 = .ok (.iconst 0, 1) := by decide +kernel
theorem dX6_forget_2 : decode cX6_forget 2 = .ok (.putfield 20, 3) := by decide +kernel
theorem dX6_forget_5 : decode cX6_forget 5 = .ok (.return_, 1) := by decide +kernel
theorem dX6_put_0 : decode cX6_put 0 = .ok (.aload_n 0, 1) := by decide +kernel
theorem dX6_put_1 : decode cX6_put 1 = .ok (.getfield 16, 3) := by decide +kernel
theorem dX6_put_4 : decode cX6_put 4 = .ok (.aload_n 0, 1) := by decide +kernel
theorem dX6_put_5 : decode cX6_put 5 = .ok (.getfield 20, 3) := by decide +kernel
theorem dX6_put_8 : decode cX6_put 8 = .ok (.iadd, 1) := by decide +kernel
theorem dX6_put_9 : decode cX6_put 9 = .ok (.bipush 40, 2) := by decide +kernel
theorem dX6_put_11 : decode cX6_put 11 = .ok (.irem, 1) := by decide +kernel
theorem dX6_put_12 : decode cX6_put 12 = .ok (.istore 6, 2) := by decide +kernel
theorem dX6_put_14 : decode cX6_put 14 = .ok (.iconst 0, 1) := by decide +kernel
theorem dX6_put_15 : decode cX6_put 15 = .ok (.istore 7, 2) := by decide +kernel
theorem dX6_put_17 : decode cX6_put 17 = .ok (.iload 7, 2) := by decide +kernel
theorem dX6_put_19 : decode cX6_put 19 = .ok (.iconst 4, 1) := by decide +kernel
theorem dX6_put_20 : decode cX6_put 20 = .ok (.if_icmp .ge 28, 3) := by decide +kernel
theorem dX6_put_23 : decode cX6_put 23 = .ok (.aload_n 0, 1) := by decide +kernel
theorem dX6_put_24 : decode cX6_put 24 = .ok (.getfield 13, 3) := by decide +kernel
theorem dX6_put_27 : decode cX6_put 27 = .ok (.iload 7, 2) := by decide +kernel
theorem dX6_put_29 : decode cX6_put 29 = .ok (.aaload, 1) := by decide +kernel
theorem dX6_put_30 : decode cX6_put 30 = .ok (.iload 6, 2) := by decide +kernel
theorem dX6_put_32 : decode cX6_put 32 = .ok (.aload_n 1, 1) := by decide +kernel
theorem dX6_put_33 : decode cX6_put 33 = .ok (.getfield 23, 3) := by decide +kernel
theorem dX6_put_36 : decode cX6_put 36 = .ok (.iload 7, 2) := by decide +kernel
theorem dX6_put_38 : decode cX6_put 38 = .ok (.aaload, 1) := by decide +kernel
theorem dX6_put_39 : decode cX6_put 39 = .ok (.iload_n 2, 1) := by decide +kernel
theorem dX6_put_40 : decode cX6_put 40 = .ok (.iaload, 1) := by decide +kernel
theorem dX6_put_41 : decode cX6_put 41 = .ok (.iastore, 1) := by decide +kernel
theorem dX6_put_42 : decode cX6_put 42 = .ok (.iinc 7 1, 3) := by decide +kernel
theorem dX6_put_45 : decode cX6_put 45 = .ok (.goto (-28), 3) := by decide +kernel
theorem dX6_put_48 : decode cX6_put 48 = .ok (.aload_n 0, 1) := by decide +kernel
theorem dX6_put_49 : decode cX6_put 49 = .ok (.getfield 13, 3) := by decide +kernel
theorem dX6_put_52 : decode cX6_put 52 = .ok (.iconst 4, 1) := by decide +kernel
theorem dX6_put_53 : decode cX6_put 53 = .ok (.aaload, 1) := by decide +kernel
theorem dX6_put_54 : decode cX6_put 54 = .ok (.iload 6, 2) := by decide +kernel
theorem dX6_put_56 : decode cX6_put 56 = .ok (.iload 4, 2) := by decide +kernel
theorem dX6_put_58 : decode cX6_put 58 = .ok (.iastore, 1) := by decide +kernel
theorem dX6_put_59 : decode cX6_put 59 = .ok (.aload_n 0, 1) := by decide +kernel
theorem dX6_put_60 : decode cX6_put 60 = .ok (.getfield 13, 3) := by decide +kernel
theorem dX6_put_63 : decode cX6_put 63 = .ok (.iconst 5, 1) := by decide +kernel
theorem dX6_put_64 : decode cX6_put 64 = .ok (.aaload, 1) := by decide +kernel
theorem dX6_put_65 : decode cX6_put 65 = .ok (.iload 6, 2) := by decide +kernel
theorem dX6_put_67 : decode cX6_put 67 = .ok (.iload 5, 2) := by decide +kernel
theorem dX6_put_69 : decode cX6_put 69 = .ok (.iastore, 1) := by decide +kernel
theorem dX6_put_70 : decode cX6_put 70 = .ok (.aload_n 0, 1) := by decide +kernel
theorem dX6_put_71 : decode cX6_put 71 = .ok (.getfield 13, 3) := by decide +kernel
theorem dX6_put_74 : decode cX6_put 74 = .ok (.bipush 6, 2) := by decide +kernel
theorem dX6_put_76 : decode cX6_put 76 = .ok (.aaload, 1) := by decide +kernel
theorem dX6_put_77 : decode cX6_put 77 = .ok (.iload 6, 2) := by decide +kernel
theorem dX6_put_79 : decode cX6_put 79 = .ok (.iload 4, 2) := by decide +kernel
theorem dX6_put_81 : decode cX6_put 81 = .ok (.iload_n 3, 1) := by decide +kernel
theorem dX6_put_82 : decode cX6_put 82 = .ok (.if_icmp .ge 7, 3) := by decide +kernel
theorem dX6_put_85 : decode cX6_put 85 = .ok (.iconst 1, 1) := by decide +kernel
theorem dX6_put_86 : decode cX6_put 86 = .ok (.goto 4, 3) := by decide +kernel
theorem dX6_put_89 : decode cX6_put 89 = .ok (.iconst 0, 1) := by decide +kernel
theorem dX6_put_90 : decode cX6_put 90 = .ok (.iastore, 1) := by decide +kernel
theorem dX6_put_91 : decode cX6_put 91 = .ok (.aload_n 0, 1) := by decide +kernel
theorem dX6_put_92 : decode cX6_put 92 = .ok (.getfield 20, 3) := by decide +kernel
theorem dX6_put_95 : decode cX6_put 95 = .ok (.bipush 40, 2) := by decide +kernel
theorem dX6_put_97 : decode cX6_put 97 = .ok (.if_icmp .ge 16, 3) := by decide +kernel
theorem dX6_put_100 : decode cX6_put 100 = .ok (.aload_n 0, 1) := by decide +kernel
theorem dX6_put_101 : decode cX6_put 101 = .ok (.dup, 1) := by decide +kernel
theorem dX6_put_102 : decode cX6_put 102 = .ok (.getfield 20, 3) := by decide +kernel
theorem dX6_put_105 : decode cX6_put 105 = .ok (.iconst 1, 1) := by decide +kernel
theorem dX6_put_106 : decode cX6_put 106 = .ok (.iadd, 1) := by decide +kernel
theorem dX6_put_107 : decode cX6_put 107 = .ok (.putfield 20, 3) := by decide +kernel
theorem dX6_put_110 : decode cX6_put 110 = .ok (.goto 16, 3) := by decide +kernel
theorem dX6_put_113 : decode cX6_put 113 = .ok (.aload_n 0, 1) := by decide +kernel
theorem dX6_put_114 : decode cX6_put 114 = .ok (.aload_n 0, 1) := by decide +kernel
theorem dX6_put_115 : decode cX6_put 115 = .ok (.getfield 16, 3) := by decide +kernel
theorem dX6_put_118 : decode cX6_put 118 = .ok (.iconst 1, 1) := by decide +kernel
theorem dX6_put_119 : decode cX6_put 119 = .ok (.iadd, 1) := by decide +kernel
theorem dX6_put_120 : decode cX6_put 120 = .ok (.bipush 40, 2) := by decide +kernel
theorem dX6_put_122 : decode cX6_put 122 = .ok (.irem, 1) := by decide +kernel
theorem dX6_put_123 : decode cX6_put 123 = .ok (.putfield 16, 3) := by decide +kernel
theorem dX6_put_126 : decode cX6_put 126 = .ok (.return_, 1) := by decide +kernel
theorem dX6_partAt_0 : decode cX6_partAt 0 = .ok (.aload_n 0, 1) := by decide +kernel
theorem dX6_partAt_1 : decode cX6_partAt 1 = .ok (.getfield 13, 3) := by decide +kernel
theorem dX6_partAt_4 : decode cX6_partAt 4 = .ok (.iload_n 2, 1) := by decide +kernel
theorem dX6_partAt_5 : decode cX6_partAt 5 = .ok (.aaload, 1) := by decide +kernel
theorem dX6_partAt_6 : decode cX6_partAt 6 = .ok (.aload_n 0, 1) := by decide +kernel
theorem dX6_partAt_7 : decode cX6_partAt 7 = .ok (.getfield 16, 3) := by decide +kernel
theorem dX6_partAt_10 : decode cX6_partAt 10 = .ok (.iload_n 1, 1) := by decide +kernel
theorem dX6_partAt_11 : decode cX6_partAt 11 = .ok (.iadd, 1) := by decide +kernel
theorem dX6_partAt_12 : decode cX6_partAt 12 = .ok (.bipush 40, 2) := by decide +kernel
theorem dX6_partAt_14 : decode cX6_partAt 14 = .ok (.irem, 1) := by decide +kernel
theorem dX6_partAt_15 : decode cX6_partAt 15 = .ok (.iaload, 1) := by decide +kernel
theorem dX6_partAt_16 : decode cX6_partAt 16 = .ok (.ireturn, 1) := by decide +kernel
theorem dX6_improvements_0 : decode cX6_improvements 0 = .ok (.iconst 0, 1) := by decide +kernel
theorem dX6_improvements_1 : decode cX6_improvements 1 = .ok (.istore_n 1, 1) := by decide +kernel
theorem dX6_improvements_2 : decode cX6_improvements 2 = .ok (.iconst 0, 1) := by decide +kernel
theorem dX6_improvements_3 : decode cX6_improvements 3 = .ok (.istore_n 2, 1) := by decide +kernel
theorem dX6_improvements_4 : decode cX6_improvements 4 = .ok (.iload_n 2, 1) := by decide +kernel
theorem dX6_improvements_5 : decode cX6_improvements 5 = .ok (.aload_n 0, 1) := by decide +kernel
theorem dX6_improvements_6 : decode cX6_improvements 6 = .ok (.getfield 20, 3) := by decide +kernel
theorem dX6_improvements_9 : decode cX6_improvements 9 = .ok (.if_icmp .ge 19, 3) := by decide +kernel
theorem dX6_improvements_12 : decode cX6_improvements 12 = .ok (.iload_n 1, 1) := by decide +kernel
theorem dX6_improvements_13 : decode cX6_improvements 13 = .ok (.aload_n 0, 1) := by decide +kernel
theorem dX6_improvements_14 : decode cX6_improvements 14 = .ok (.iload_n 2, 1) := by decide +kernel
theorem dX6_improvements_15 : decode cX6_improvements 15 = .ok (.bipush 6, 2) := by decide +kernel
theorem dX6_improvements_17 : decode cX6_improvements 17 = .ok (.invokevirtual 26, 3) := by decide +kernel
theorem dX6_improvements_20 : decode cX6_improvements 20 = .ok (.iadd, 1) := by decide +kernel
theorem dX6_improvements_21 : decode cX6_improvements 21 = .ok (.istore_n 1, 1) := by decide +kernel
theorem dX6_improvements_22 : decode cX6_improvements 22 = .ok (.iinc 2 1, 3) := by decide +kernel
theorem dX6_improvements_25 : decode cX6_improvements 25 = .ok (.goto (-21), 3) := by decide +kernel
theorem dX6_improvements_28 : decode cX6_improvements 28 = .ok (.iload_n 1, 1) := by decide +kernel
theorem dX6_improvements_29 : decode cX6_improvements 29 = .ok (.ireturn, 1) := by decide +kernel
theorem dX7_init_0 : decode cX7_init 0 = .ok (.aload_n 0, 1) := by decide +kernel
theorem dX7_init_1 : decode cX7_init 1 = .ok (.invokespecial 3, 3) := by decide +kernel
theorem dX7_init_4 : decode cX7_init 4 = .ok (.aload_n 0, 1) := by decide +kernel
theorem dX7_init_5 : decode cX7_init 5 = .ok (.bipush 10, 2) := by decide +kernel
theorem dX7_init_7 : decode cX7_init 7 = .ok (.newarray .int, 2) := by decide +kernel
theorem dX7_init_9 : decode cX7_init 9 = .ok (.putfield 9, 3) := by decide +kernel
theorem dX7_init_12 : decode cX7_init 12 = .ok (.aload_n 0, 1) := by decide +kernel
theorem dX7_init_13 : decode cX7_init 13 = .ok (.bipush 10, 2) := by decide +kernel
theorem dX7_init_15 : decode cX7_init 15 = .ok (.newarray .int, 2) := by decide +kernel
theorem dX7_init_17 : decode cX7_init 17 = .ok (.putfield 15, 3) := by decide +kernel
theorem dX7_init_20 : decode cX7_init 20 = .ok (.aload_n 0, 1) := by decide +kernel
theorem dX7_init_21 : decode cX7_init 21 = .ok (.iconst 0, 1) := by decide +kernel
theorem dX7_init_22 : decode cX7_init 22 = .ok (.putfield 18, 3) := by decide +kernel
theorem dX7_init_25 : decode cX7_init 25 = .ok (.aload_n 0, 1) := by decide +kernel
theorem dX7_init_26 : decode cX7_init 26 = .ok (.iconst 0, 1) := by decide +kernel
theorem dX7_init_27 : decode cX7_init 27 = .ok (.putfield 22, 3) := by decide +kernel
theorem dX7_init_30 : decode cX7_init 30 = .ok (.aload_n 0, 1) := by decide +kernel
theorem dX7_init_31 : decode cX7_init 31 = .ok (.iconst 0, 1) := by decide +kernel
theorem dX7_init_32 : decode cX7_init 32 = .ok (.putfield 26, 3) := by decide +kernel
theorem dX7_init_35 : decode cX7_init 35 = .ok (.aload_n 0, 1) := by decide +kernel
theorem dX7_init_36 : decode cX7_init 36 = .ok (.iconst 0, 1) := by decide +kernel
theorem dX7_init_37 : decode cX7_init 37 = .ok (.putfield 29, 3) := by decide +kernel
theorem dX7_init_40 : decode cX7_init 40 = .ok (.aload_n 0, 1) := by decide +kernel
theorem dX7_init_41 : decode cX7_init 41 = .ok (.iconst 0, 1) := by decide +kernel
theorem dX7_init_42 : decode cX7_init 42 = .ok (.putfield 32, 3) := by decide +kernel
theorem dX7_init_45 : decode cX7_init 45 = .ok (.return_, 1) := by decide +kernel
theorem dX7_explore_0 : decode cX7_explore 0 = .ok (.aload_n 0, 1) := by decide +kernel
theorem dX7_explore_1 : decode cX7_explore 1 = .ok (.getfield 9, 3) := by decide +kernel
theorem dX7_explore_4 : decode cX7_explore 4 = .ok (.iconst 0, 1) := by decide +kernel
theorem dX7_explore_5 : decode cX7_explore 5 = .ok (.invokestatic 35, 3) := by decide +kernel
theorem dX7_explore_8 : decode cX7_explore 8 = .ok (.aload_n 0, 1) := by decide +kernel
theorem dX7_explore_9 : decode cX7_explore 9 = .ok (.ldc 41, 2) := by decide +kernel
theorem dX7_explore_11 : decode cX7_explore 11 = .ok (.putfield 22, 3) := by decide +kernel
theorem dX7_explore_14 : decode cX7_explore 14 = .ok (.aload_n 0, 1) := by decide +kernel
theorem dX7_explore_15 : decode cX7_explore 15 = .ok (.iconst 0, 1) := by decide +kernel
theorem dX7_explore_16 : decode cX7_explore 16 = .ok (.putfield 29, 3) := by decide +kernel
theorem dX7_explore_19 : decode cX7_explore 19 = .ok (.aload_n 1, 1) := by decide +kernel
theorem dX7_explore_20 : decode cX7_explore 20 = .ok (.invokevirtual 42, 3) := by decide +kernel
theorem dX7_explore_23 : decode cX7_explore 23 = .ok (.istore_n 2, 1) := by decide +kernel
theorem dX7_explore_24 : decode cX7_explore 24 = .ok (.iconst 0, 1) := by decide +kernel
theorem dX7_explore_25 : decode cX7_explore 25 = .ok (.istore_n 3, 1) := by decide +kernel
theorem dX7_explore_26 : decode cX7_explore 26 = .ok (.iload_n 3, 1) := by decide +kernel
theorem dX7_explore_27 : decode cX7_explore 27 = .ok (.iload_n 2, 1) := by decide +kernel
theorem dX7_explore_28 : decode cX7_explore 28 = .ok (.if_icmp .ge 19, 3) := by decide +kernel
theorem dX7_explore_31 : decode cX7_explore 31 = .ok (.aload_n 0, 1) := by decide +kernel
theorem dX7_explore_32 : decode cX7_explore 32 = .ok (.aload_n 1, 1) := by decide +kernel
theorem dX7_explore_33 : decode cX7_explore 33 = .ok (.invokevirtual 48, 3) := by decide +kernel
theorem dX7_explore_36 : decode cX7_explore 36 = .ok (.aload_n 0, 1) := by decide +kernel
theorem dX7_explore_37 : decode cX7_explore 37 = .ok (.aload_n 1, 1) := by decide +kernel
theorem dX7_explore_38 : decode cX7_explore 38 = .ok (.invokevirtual 52, 3) := by decide +kernel
theorem dX7_explore_41 : decode cX7_explore 41 = .ok (.iinc 3 1, 3) := by decide +kernel
theorem dX7_explore_44 : decode cX7_explore 44 = .ok (.goto (-18), 3) := by decide +kernel
theorem dX7_explore_47 : decode cX7_explore 47 = .ok (.aload_n 0, 1) := by decide +kernel
theorem dX7_explore_48 : decode cX7_explore 48 = .ok (.iconst 1, 1) := by decide +kernel
theorem dX7_explore_49 : decode cX7_explore 49 = .ok (.putfield 18, 3) := by decide +kernel
theorem dX7_explore_52 : decode cX7_explore 52 = .ok (.return_, 1) := by decide +kernel
theorem dX7_weigh_0 : decode cX7_weigh 0 = .ok (.iconst 0, 1) := by decide +kernel
theorem dX7_weigh_1 : decode cX7_weigh 1 = .ok (.istore_n 2, 1) := by decide +kernel
theorem dX7_weigh_2 : decode cX7_weigh 2 = .ok (.iconst 0, 1) := by decide +kernel
theorem dX7_weigh_3 : decode cX7_weigh 3 = .ok (.istore_n 3, 1) := by decide +kernel
theorem dX7_weigh_4 : decode cX7_weigh 4 = .ok (.iconst 0, 1) := by decide +kernel
theorem dX7_weigh_5 : decode cX7_weigh 5 = .ok (.istore 4, 2) := by decide +kernel
theorem dX7_weigh_7 : decode cX7_weigh 7 = .ok (.iload 4, 2) := by decide +kernel
theorem dX7_weigh_9 : decode cX7_weigh 9 = .ok (.aload_n 1, 1) := by decide +kernel
theorem dX7_weigh_10 : decode cX7_weigh 10 = .ok (.getfield 55, 3) := by decide +kernel
theorem dX7_weigh_13 : decode cX7_weigh 13 = .ok (.if_icmp .ge 46, 3) := by decide +kernel
theorem dX7_weigh_16 : decode cX7_weigh 16 = .ok (.aload_n 1, 1) := by decide +kernel
theorem dX7_weigh_17 : decode cX7_weigh 17 = .ok (.iload 4, 2) := by decide +kernel
theorem dX7_weigh_19 : decode cX7_weigh 19 = .ok (.aload_n 0, 1) := by decide +kernel
theorem dX7_weigh_20 : decode cX7_weigh 20 = .ok (.getfield 9, 3) := by decide +kernel
theorem dX7_weigh_23 : decode cX7_weigh 23 = .ok (.invokevirtual 58, 3) := by decide +kernel
theorem dX7_weigh_26 : decode cX7_weigh 26 = .ok (.istore 5, 2) := by decide +kernel
theorem dX7_weigh_28 : decode cX7_weigh 28 = .ok (.iload_n 2, 1) := by decide +kernel
theorem dX7_weigh_29 : decode cX7_weigh 29 = .ok (.aload_n 1, 1) := by decide +kernel
theorem dX7_weigh_30 : decode cX7_weigh 30 = .ok (.getfield 62, 3) := by decide +kernel
theorem dX7_weigh_33 : decode cX7_weigh 33 = .ok (.iload 4, 2) := by decide +kernel
theorem dX7_weigh_35 : decode cX7_weigh 35 = .ok (.iaload, 1) := by decide +kernel
theorem dX7_weigh_36 : decode cX7_weigh 36 = .ok (.iload 5, 2) := by decide +kernel
theorem dX7_weigh_38 : decode cX7_weigh 38 = .ok (.imul, 1) := by decide +kernel
theorem dX7_weigh_39 : decode cX7_weigh 39 = .ok (.iadd, 1) := by decide +kernel
theorem dX7_weigh_40 : decode cX7_weigh 40 = .ok (.istore_n 2, 1) := by decide +kernel
theorem dX7_weigh_41 : decode cX7_weigh 41 = .ok (.iload 5, 2) := by decide +kernel
theorem dX7_weigh_43 : decode cX7_weigh 43 = .ok (.ifCond .le 10, 3) := by decide +kernel
theorem dX7_weigh_46 : decode cX7_weigh 46 = .ok (.iload_n 3, 1) := by decide +kernel
theorem dX7_weigh_47 : decode cX7_weigh 47 = .ok (.iconst 1, 1) := by decide +kernel
theorem dX7_weigh_48 : decode cX7_weigh 48 = .ok (.iload 4, 2) := by decide +kernel
theorem dX7_weigh_50 : decode cX7_weigh 50 = .ok (.ishl, 1) := by decide +kernel
theorem dX7_weigh_51 : decode cX7_weigh 51 = .ok (.ior, 1) := by decide +kernel
theorem dX7_weigh_52 : decode cX7_weigh 52 = .ok (.istore_n 3, 1) := by decide +kernel
theorem dX7_weigh_53 : decode cX7_weigh 53 = .ok (.iinc 4 1, 3) := by decide +kernel
theorem dX7_weigh_56 : decode cX7_weigh 56 = .ok (.goto (-49), 3) := by decide +kernel
theorem dX7_weigh_59 : decode cX7_weigh 59 = .ok (.aload_n 0, 1) := by decide +kernel
theorem dX7_weigh_60 : decode cX7_weigh 60 = .ok (.aload_n 0, 1) := by decide +kernel
theorem dX7_weigh_61 : decode cX7_weigh 61 = .ok (.getfield 29, 3) := by decide +kernel
theorem dX7_weigh_64 : decode cX7_weigh 64 = .ok (.iload_n 2, 1) := by decide +kernel
theorem dX7_weigh_65 : decode cX7_weigh 65 = .ok (.invokestatic 65, 3) := by decide +kernel
theorem dX7_weigh_68 : decode cX7_weigh 68 = .ok (.putfield 29, 3) := by decide +kernel
theorem dX7_weigh_71 : decode cX7_weigh 71 = .ok (.iload_n 2, 1) := by decide +kernel
theorem dX7_weigh_72 : decode cX7_weigh 72 = .ok (.aload_n 0, 1) := by decide +kernel
theorem dX7_weigh_73 : decode cX7_weigh 73 = .ok (.getfield 22, 3) := by decide +kernel
theorem dX7_weigh_76 : decode cX7_weigh 76 = .ok (.if_icmp .ge 36, 3) := by decide +kernel
theorem dX7_weigh_79 : decode cX7_weigh 79 = .ok (.aload_n 0, 1) := by decide +kernel
theorem dX7_weigh_80 : decode cX7_weigh 80 = .ok (.iload_n 2, 1) := by decide +kernel
theorem dX7_weigh_81 : decode cX7_weigh 81 = .ok (.putfield 22, 3) := by decide +kernel
theorem dX7_weigh_84 : decode cX7_weigh 84 = .ok (.aload_n 0, 1) := by decide +kernel
theorem dX7_weigh_85 : decode cX7_weigh 85 = .ok (.iconst 1, 1) := by decide +kernel
theorem dX7_weigh_86 : decode cX7_weigh 86 = .ok (.putfield 26, 3) := by decide +kernel
theorem dX7_weigh_89 : decode cX7_weigh 89 = .ok (.aload_n 0, 1) := by decide +kernel
theorem dX7_weigh_90 : decode cX7_weigh 90 = .ok (.iload_n 3, 1) := by decide +kernel
theorem dX7_weigh_91 : decode cX7_weigh 91 = .ok (.putfield 32, 3) := by decide +kernel
theorem dX7_weigh_94 : decode cX7_weigh 94 = .ok (.aload_n 0, 1) := by decide +kernel
theorem dX7_weigh_95 : decode cX7_weigh 95 = .ok (.getfield 9, 3) := by decide +kernel
theorem dX7_weigh_98 : decode cX7_weigh 98 = .ok (.iconst 0, 1) := by decide +kernel
theorem dX7_weigh_99 : decode cX7_weigh 99 = .ok (.aload_n 0, 1) := by decide +kernel
theorem dX7_weigh_100 : decode cX7_weigh 100 = .ok (.getfield 15, 3) := by decide +kernel
theorem dX7_weigh_103 : decode cX7_weigh 103 = .ok (.iconst 0, 1) := by decide +kernel
theorem dX7_weigh_104 : decode cX7_weigh 104 = .ok (.bipush 10, 2) := by decide +kernel
theorem dX7_weigh_106 : decode cX7_weigh 106 = .ok (.invokestatic 71, 3) := by decide +kernel
theorem dX7_weigh_109 : decode cX7_weigh 109 = .ok (.goto 31, 3) := by decide +kernel
theorem dX7_weigh_112 : decode cX7_weigh 112 = .ok (.iload_n 2, 1) := by decide +kernel
theorem dX7_weigh_113 : decode cX7_weigh 113 = .ok (.aload_n 0, 1) := by decide +kernel
theorem dX7_weigh_114 : decode cX7_weigh 114 = .ok (.getfield 22, 3) := by decide +kernel
theorem dX7_weigh_117 : decode cX7_weigh 117 = .ok (.if_icmp .ne 23, 3) := by decide +kernel
theorem dX7_weigh_120 : decode cX7_weigh 120 = .ok (.aload_n 0, 1) := by decide +kernel
theorem dX7_weigh_121 : decode cX7_weigh 121 = .ok (.dup, 1) := by decide +kernel
theorem dX7_weigh_122 : decode cX7_weigh 122 = .ok (.getfield 26, 3) := by decide +kernel
theorem dX7_weigh_125 : decode cX7_weigh 125 = .ok (.iconst 1, 1) := by decide +kernel
theorem dX7_weigh_126 : decode cX7_weigh 126 = .ok (.iadd, 1) := by decide +kernel
theorem dX7_weigh_127 : decode cX7_weigh 127 = .ok (.putfield 26, 3) := by decide +kernel
theorem dX7_weigh_130 : decode cX7_weigh 130 = .ok (.aload_n 0, 1) := by decide +kernel
theorem dX7_weigh_131 : decode cX7_weigh 131 = .ok (.dup, 1) := by decide +kernel
theorem dX7_weigh_132 : decode cX7_weigh 132 = .ok (.getfield 32, 3) := by decide +kernel
theorem dX7_weigh_135 : decode cX7_weigh 135 = .ok (.iload_n 3, 1) := by decide +kernel
theorem dX7_weigh_136 : decode cX7_weigh 136 = .ok (.iand, 1) := by decide +kernel
theorem dX7_weigh_137 : decode cX7_weigh 137 = .ok (.putfield 32, 3) := by decide +kernel
theorem dX7_weigh_140 : decode cX7_weigh 140 = .ok (.return_, 1) := by decide +kernel
theorem dX7_advance_0 : decode cX7_advance 0 = .ok (.aload_n 1, 1) := by decide +kernel
theorem dX7_advance_1 : decode cX7_advance 1 = .ok (.getfield 77, 3) := by decide +kernel
theorem dX7_advance_4 : decode cX7_advance 4 = .ok (.iconst 1, 1) := by decide +kernel
theorem dX7_advance_5 : decode cX7_advance 5 = .ok (.isub, 1) := by decide +kernel
theorem dX7_advance_6 : decode cX7_advance 6 = .ok (.istore_n 2, 1) := by decide +kernel
theorem dX7_advance_7 : decode cX7_advance 7 = .ok (.iload_n 2, 1) := by decide +kernel
theorem dX7_advance_8 : decode cX7_advance 8 = .ok (.ifCond .lt 42, 3) := by decide +kernel
theorem dX7_advance_11 : decode cX7_advance 11 = .ok (.aload_n 0, 1) := by decide +kernel
theorem dX7_advance_12 : decode cX7_advance 12 = .ok (.getfield 9, 3) := by decide +kernel
theorem dX7_advance_15 : decode cX7_advance 15 = .ok (.iload_n 2, 1) := by decide +kernel
theorem dX7_advance_16 : decode cX7_advance 16 = .ok (.dup2, 1) := by decide +kernel
theorem dX7_advance_17 : decode cX7_advance 17 = .ok (.iaload, 1) := by decide +kernel
theorem dX7_advance_18 : decode cX7_advance 18 = .ok (.iconst 1, 1) := by decide +kernel
theorem dX7_advance_19 : decode cX7_advance 19 = .ok (.iadd, 1) := by decide +kernel
theorem dX7_advance_20 : decode cX7_advance 20 = .ok (.iastore, 1) := by decide +kernel
theorem dX7_advance_21 : decode cX7_advance 21 = .ok (.aload_n 0, 1) := by decide +kernel
theorem dX7_advance_22 : decode cX7_advance 22 = .ok (.getfield 9, 3) := by decide +kernel
theorem dX7_advance_25 : decode cX7_advance 25 = .ok (.iload_n 2, 1) := by decide +kernel
theorem dX7_advance_26 : decode cX7_advance 26 = .ok (.iaload, 1) := by decide +kernel
theorem dX7_advance_27 : decode cX7_advance 27 = .ok (.aload_n 1, 1) := by decide +kernel
theorem dX7_advance_28 : decode cX7_advance 28 = .ok (.getfield 80, 3) := by decide +kernel
theorem dX7_advance_31 : decode cX7_advance 31 = .ok (.iload_n 2, 1) := by decide +kernel
theorem dX7_advance_32 : decode cX7_advance 32 = .ok (.iaload, 1) := by decide +kernel
theorem dX7_advance_33 : decode cX7_advance 33 = .ok (.if_icmp .ge 4, 3) := by decide +kernel
theorem dX7_advance_36 : decode cX7_advance 36 = .ok (.return_, 1) := by decide +kernel
theorem dX7_advance_37 : decode cX7_advance 37 = .ok (.aload_n 0, 1) := by decide +kernel
theorem dX7_advance_38 : decode cX7_advance 38 = .ok (.getfield 9, 3) := by decide +kernel
theorem dX7_advance_41 : decode cX7_advance 41 = .ok (.iload_n 2, 1) := by decide +kernel
theorem dX7_advance_42 : decode cX7_advance 42 = .ok (.iconst 0, 1) := by decide +kernel
theorem dX7_advance_43 : decode cX7_advance 43 = .ok (.iastore, 1) := by decide +kernel
theorem dX7_advance_44 : decode cX7_advance 44 = .ok (.iinc 2 (-1), 3) := by decide +kernel
theorem dX7_advance_47 : decode cX7_advance 47 = .ok (.goto (-40), 3) := by decide +kernel
theorem dX7_advance_50 : decode cX7_advance 50 = .ok (.return_, 1) := by decide +kernel
theorem dX8_init_0 : decode cX8_init 0 = .ok (.aload_n 0, 1) := by decide +kernel
theorem dX8_init_1 : decode cX8_init 1 = .ok (.invokespecial 3, 3) := by decide +kernel
theorem dX8_init_4 : decode cX8_init 4 = .ok (.aload_n 0, 1) := by decide +kernel
theorem dX8_init_5 : decode cX8_init 5 = .ok (.bipush 10, 2) := by decide +kernel
theorem dX8_init_7 : decode cX8_init 7 = .ok (.newarray .int, 2) := by decide +kernel
theorem dX8_init_9 : decode cX8_init 9 = .ok (.putfield 9, 3) := by decide +kernel
theorem dX8_init_12 : decode cX8_init 12 = .ok (.aload_n 0, 1) := by decide +kernel
theorem dX8_init_13 : decode cX8_init 13 = .ok (.bipush 10, 2) := by decide +kernel
theorem dX8_init_15 : decode cX8_init 15 = .ok (.newarray .int, 2) := by decide +kernel
theorem dX8_init_17 : decode cX8_init 17 = .ok (.putfield 15, 3) := by decide +kernel
theorem dX8_init_20 : decode cX8_init 20 = .ok (.aload_n 0, 1) := by decide +kernel
theorem dX8_init_21 : decode cX8_init 21 = .ok (.bipush 10, 2) := by decide +kernel
theorem dX8_init_23 : decode cX8_init 23 = .ok (.bipush 8, 2) := by decide +kernel
theorem dX8_init_25 : decode cX8_init 25 = .ok (.multianewarray 18 2, 4) := by decide +kernel
theorem dX8_init_29 : decode cX8_init 29 = .ok (.putfield 20, 3) := by decide +kernel
theorem dX8_init_32 : decode cX8_init 32 = .ok (.aload_n 0, 1) := by decide +kernel
theorem dX8_init_33 : decode cX8_init 33 = .ok (.new 23, 3) := by decide +kernel
theorem dX8_init_36 : decode cX8_init 36 = .ok (.dup, 1) := by decide +kernel
theorem dX8_init_37 : decode cX8_init 37 = .ok (.invokespecial 25, 3) := by decide +kernel
theorem dX8_init_40 : decode cX8_init 40 = .ok (.putfield 26, 3) := by decide +kernel
theorem dX8_init_43 : decode cX8_init 43 = .ok (.aload_n 0, 1) := by decide +kernel
theorem dX8_init_44 : decode cX8_init 44 = .ok (.new 30, 3) := by decide +kernel
theorem dX8_init_47 : decode cX8_init 47 = .ok (.dup, 1) := by decide +kernel
theorem dX8_init_48 : decode cX8_init 48 = .ok (.invokespecial 32, 3) := by decide +kernel
theorem dX8_init_51 : decode cX8_init 51 = .ok (.putfield 33, 3) := by decide +kernel
theorem dX8_init_54 : decode cX8_init 54 = .ok (.aload_n 0, 1) := by decide +kernel
theorem dX8_init_55 : decode cX8_init 55 = .ok (.iconst 0, 1) := by decide +kernel
theorem dX8_init_56 : decode cX8_init 56 = .ok (.putfield 37, 3) := by decide +kernel
theorem dX8_init_59 : decode cX8_init 59 = .ok (.aload_n 0, 1) := by decide +kernel
theorem dX8_init_60 : decode cX8_init 60 = .ok (.iconst 0, 1) := by decide +kernel
theorem dX8_init_61 : decode cX8_init 61 = .ok (.putfield 41, 3) := by decide +kernel
theorem dX8_init_64 : decode cX8_init 64 = .ok (.aload_n 0, 1) := by decide +kernel
theorem dX8_init_65 : decode cX8_init 65 = .ok (.iconst 0, 1) := by decide +kernel
theorem dX8_init_66 : decode cX8_init 66 = .ok (.putfield 44, 3) := by decide +kernel
theorem dX8_init_69 : decode cX8_init 69 = .ok (.aload_n 0, 1) := by decide +kernel
theorem dX8_init_70 : decode cX8_init 70 = .ok (.iconst 0, 1) := by decide +kernel
theorem dX8_init_71 : decode cX8_init 71 = .ok (.putfield 47, 3) := by decide +kernel
theorem dX8_init_74 : decode cX8_init 74 = .ok (.aload_n 0, 1) := by decide +kernel
theorem dX8_init_75 : decode cX8_init 75 = .ok (.iconst 0, 1) := by decide +kernel
theorem dX8_init_76 : decode cX8_init 76 = .ok (.putfield 50, 3) := by decide +kernel
theorem dX8_init_79 : decode cX8_init 79 = .ok (.return_, 1) := by decide +kernel
theorem dX8_begin_0 : decode cX8_begin 0 = .ok (.aload_n 0, 1) := by decide +kernel
theorem dX8_begin_1 : decode cX8_begin 1 = .ok (.iconst 0, 1) := by decide +kernel
theorem dX8_begin_2 : decode cX8_begin 2 = .ok (.putfield 44, 3) := by decide +kernel
theorem dX8_begin_5 : decode cX8_begin 5 = .ok (.aload_n 0, 1) := by decide +kernel
theorem dX8_begin_6 : decode cX8_begin 6 = .ok (.iconst 0, 1) := by decide +kernel
theorem dX8_begin_7 : decode cX8_begin 7 = .ok (.putfield 47, 3) := by decide +kernel
theorem dX8_begin_10 : decode cX8_begin 10 = .ok (.aload_n 0, 1) := by decide +kernel
theorem dX8_begin_11 : decode cX8_begin 11 = .ok (.iconst 0, 1) := by decide +kernel
theorem dX8_begin_12 : decode cX8_begin 12 = .ok (.putfield 50, 3) := by decide +kernel
theorem dX8_begin_15 : decode cX8_begin 15 = .ok (.aload_n 0, 1) := by decide +kernel
theorem dX8_begin_16 : decode cX8_begin 16 = .ok (.getfield 33, 3) := by decide +kernel
theorem dX8_begin_19 : decode cX8_begin 19 = .ok (.invokevirtual 53, 3) := by decide +kernel
theorem dX8_begin_22 : decode cX8_begin 22 = .ok (.aload_n 0, 1) := by decide +kernel
theorem dX8_begin_23 : decode cX8_begin 23 = .ok (.invokevirtual 56, 3) := by decide +kernel
theorem dX8_begin_26 : decode cX8_begin 26 = .ok (.aload_n 0, 1) := by decide +kernel
theorem dX8_begin_27 : decode cX8_begin 27 = .ok (.aload_n 1, 1) := by decide +kernel
theorem dX8_begin_28 : decode cX8_begin 28 = .ok (.aload_n 1, 1) := by decide +kernel
theorem dX8_begin_29 : decode cX8_begin 29 = .ok (.invokevirtual 59, 3) := by decide +kernel
theorem dX8_begin_32 : decode cX8_begin 32 = .ok (.invokevirtual 65, 3) := by decide +kernel
theorem dX8_begin_35 : decode cX8_begin 35 = .ok (.return_, 1) := by decide +kernel
theorem dX8_keepBest_0 : decode cX8_keepBest 0 = .ok (.aload_n 1, 1) := by decide +kernel
theorem dX8_keepBest_1 : decode cX8_keepBest 1 = .ok (.getfield 69, 3) := by decide +kernel
theorem dX8_keepBest_4 : decode cX8_keepBest 4 = .ok (.iconst 0, 1) := by decide +kernel
theorem dX8_keepBest_5 : decode cX8_keepBest 5 = .ok (.aload_n 0, 1) := by decide +kernel
theorem dX8_keepBest_6 : decode cX8_keepBest 6 = .ok (.getfield 9, 3) := by decide +kernel
theorem dX8_keepBest_9 : decode cX8_keepBest 9 = .ok (.iconst 0, 1) := by decide +kernel
theorem dX8_keepBest_10 : decode cX8_keepBest 10 = .ok (.bipush 10, 2) := by decide +kernel
theorem dX8_keepBest_12 : decode cX8_keepBest 12 = .ok (.invokestatic 72, 3) := by decide +kernel
theorem dX8_keepBest_15 : decode cX8_keepBest 15 = .ok (.aload_n 0, 1) := by decide +kernel
theorem dX8_keepBest_16 : decode cX8_keepBest 16 = .ok (.iload_n 2, 1) := by decide +kernel
theorem dX8_keepBest_17 : decode cX8_keepBest 17 = .ok (.putfield 37, 3) := by decide +kernel
theorem dX8_keepBest_20 : decode cX8_keepBest 20 = .ok (.aload_n 0, 1) := by decide +kernel
theorem dX8_keepBest_21 : decode cX8_keepBest 21 = .ok (.aload_n 0, 1) := by decide +kernel
theorem dX8_keepBest_22 : decode cX8_keepBest 22 = .ok (.getfield 44, 3) := by decide +kernel
theorem dX8_keepBest_25 : decode cX8_keepBest 25 = .ok (.putfield 41, 3) := by decide +kernel
theorem dX8_keepBest_28 : decode cX8_keepBest 28 = .ok (.return_, 1) := by decide +kernel
theorem dX8_keepIfBest_0 : decode cX8_keepIfBest 0 = .ok (.iload_n 2, 1) := by decide +kernel
theorem dX8_keepIfBest_1 : decode cX8_keepIfBest 1 = .ok (.aload_n 0, 1) := by decide +kernel
theorem dX8_keepIfBest_2 : decode cX8_keepIfBest 2 = .ok (.getfield 37, 3) := by decide +kernel
theorem dX8_keepIfBest_5 : decode cX8_keepIfBest 5 = .ok (.if_icmp .ge 7, 3) := by decide +kernel
theorem dX8_keepIfBest_8 : decode cX8_keepIfBest 8 = .ok (.iconst 1, 1) := by decide +kernel
theorem dX8_keepIfBest_9 : decode cX8_keepIfBest 9 = .ok (.goto 4, 3) := by decide +kernel
theorem dX8_keepIfBest_12 : decode cX8_keepIfBest 12 = .ok (.iconst 0, 1) := by decide +kernel
theorem dX8_keepIfBest_13 : decode cX8_keepIfBest 13 = .ok (.istore_n 3, 1) := by decide +kernel
theorem dX8_keepIfBest_14 : decode cX8_keepIfBest 14 = .ok (.iload_n 3, 1) := by decide +kernel
theorem dX8_keepIfBest_15 : decode cX8_keepIfBest 15 = .ok (.ifCond .eq 9, 3) := by decide +kernel
theorem dX8_keepIfBest_18 : decode cX8_keepIfBest 18 = .ok (.aload_n 0, 1) := by decide +kernel
theorem dX8_keepIfBest_19 : decode cX8_keepIfBest 19 = .ok (.aload_n 1, 1) := by decide +kernel
theorem dX8_keepIfBest_20 : decode cX8_keepIfBest 20 = .ok (.iload_n 2, 1) := by decide +kernel
theorem dX8_keepIfBest_21 : decode cX8_keepIfBest 21 = .ok (.invokevirtual 65, 3) := by decide +kernel
theorem dX8_keepIfBest_24 : decode cX8_keepIfBest 24 = .ok (.iload_n 3, 1) := by decide +kernel
theorem dX8_keepIfBest_25 : decode cX8_keepIfBest 25 = .ok (.ireturn, 1) := by decide +kernel
theorem dX8_freeAll_0 : decode cX8_freeAll 0 = .ok (.iconst 0, 1) := by decide +kernel
theorem dX8_freeAll_1 : decode cX8_freeAll 1 = .ok (.istore_n 1, 1) := by decide +kernel
theorem dX8_freeAll_2 : decode cX8_freeAll 2 = .ok (.iload_n 1, 1) := by decide +kernel
theorem dX8_freeAll_3 : decode cX8_freeAll 3 = .ok (.bipush 10, 2) := by decide +kernel
theorem dX8_freeAll_5 : decode cX8_freeAll 5 = .ok (.if_icmp .ge 19, 3) := by decide +kernel
theorem dX8_freeAll_8 : decode cX8_freeAll 8 = .ok (.aload_n 0, 1) := by decide +kernel
theorem dX8_freeAll_9 : decode cX8_freeAll 9 = .ok (.getfield 20, 3) := by decide +kernel
theorem dX8_freeAll_12 : decode cX8_freeAll 12 = .ok (.iload_n 1, 1) := by decide +kernel
theorem dX8_freeAll_13 : decode cX8_freeAll 13 = .ok (.aaload, 1) := by decide +kernel
theorem dX8_freeAll_14 : decode cX8_freeAll 14 = .ok (.iconst 0, 1) := by decide +kernel
theorem dX8_freeAll_15 : decode cX8_freeAll 15 = .ok (.invokestatic 78, 3) := by decide +kernel
theorem dX8_freeAll_18 : decode cX8_freeAll 18 = .ok (.iinc 1 1, 3) := by decide +kernel
theorem dX8_freeAll_21 : decode cX8_freeAll 21 = .ok (.goto (-19), 3) := by decide +kernel
theorem dX8_freeAll_24 : decode cX8_freeAll 24 = .ok (.return_, 1) := by decide +kernel
theorem dX8_isBanned_0 : decode cX8_isBanned 0 = .ok (.aload_n 0, 1) := by decide +kernel
theorem dX8_isBanned_1 : decode cX8_isBanned 1 = .ok (.getfield 44, 3) := by decide +kernel
theorem dX8_isBanned_4 : decode cX8_isBanned 4 = .ok (.aload_n 0, 1) := by decide +kernel
theorem dX8_isBanned_5 : decode cX8_isBanned 5 = .ok (.getfield 20, 3) := by decide +kernel
theorem dX8_isBanned_8 : decode cX8_isBanned 8 = .ok (.iload_n 1, 1) := by decide +kernel
theorem dX8_isBanned_9 : decode cX8_isBanned 9 = .ok (.aaload, 1) := by decide +kernel
theorem dX8_isBanned_10 : decode cX8_isBanned 10 = .ok (.iload_n 2, 1) := by decide +kernel
theorem dX8_isBanned_11 : decode cX8_isBanned 11 = .ok (.iaload, 1) := by decide +kernel
theorem dX8_isBanned_12 : decode cX8_isBanned 12 = .ok (.if_icmp .ge 7, 3) := by decide +kernel
theorem dX8_isBanned_15 : decode cX8_isBanned 15 = .ok (.iconst 1, 1) := by decide +kernel
theorem dX8_isBanned_16 : decode cX8_isBanned 16 = .ok (.goto 4, 3) := by decide +kernel
theorem dX8_isBanned_19 : decode cX8_isBanned 19 = .ok (.iconst 0, 1) := by decide +kernel
theorem dX8_isBanned_20 : decode cX8_isBanned 20 = .ok (.ireturn, 1) := by decide +kernel
theorem dX8_costAfter_0 : decode cX8_costAfter 0 = .ok (.aload_n 0, 1) := by decide +kernel
theorem dX8_costAfter_1 : decode cX8_costAfter 1 = .ok (.getfield 26, 3) := by decide +kernel
theorem dX8_costAfter_4 : decode cX8_costAfter 4 = .ok (.aload_n 1, 1) := by decide +kernel
theorem dX8_costAfter_5 : decode cX8_costAfter 5 = .ok (.iload_n 2, 1) := by decide +kernel
theorem dX8_costAfter_6 : decode cX8_costAfter 6 = .ok (.aload_n 0, 1) := by decide +kernel
theorem dX8_costAfter_7 : decode cX8_costAfter 7 = .ok (.getfield 15, 3) := by decide +kernel
theorem dX8_costAfter_10 : decode cX8_costAfter 10 = .ok (.invokevirtual 84, 3) := by decide +kernel
theorem dX8_costAfter_13 : decode cX8_costAfter 13 = .ok (.aload_n 1, 1) := by decide +kernel
theorem dX8_costAfter_14 : decode cX8_costAfter 14 = .ok (.aload_n 0, 1) := by decide +kernel
theorem dX8_costAfter_15 : decode cX8_costAfter 15 = .ok (.getfield 15, 3) := by decide +kernel
theorem dX8_costAfter_18 : decode cX8_costAfter 18 = .ok (.invokevirtual 88, 3) := by decide +kernel
theorem dX8_costAfter_21 : decode cX8_costAfter 21 = .ok (.ireturn, 1) := by decide +kernel
theorem dX8_isTrialHeld_0 : decode cX8_isTrialHeld 0 = .ok (.iload_n 2, 1) := by decide +kernel
theorem dX8_isTrialHeld_1 : decode cX8_isTrialHeld 1 = .ok (.aload_n 0, 1) := by decide +kernel
theorem dX8_isTrialHeld_2 : decode cX8_isTrialHeld 2 = .ok (.getfield 37, 3) := by decide +kernel
theorem dX8_isTrialHeld_5 : decode cX8_isTrialHeld 5 = .ok (.if_icmp .ge 5, 3) := by decide +kernel
theorem dX8_isTrialHeld_8 : decode cX8_isTrialHeld 8 = .ok (.iconst 0, 1) := by decide +kernel
theorem dX8_isTrialHeld_9 : decode cX8_isTrialHeld 9 = .ok (.ireturn, 1) := by decide +kernel
theorem dX8_isTrialHeld_10 : decode cX8_isTrialHeld 10 = .ok (.iconst 0, 1) := by decide +kernel
theorem dX8_isTrialHeld_11 : decode cX8_isTrialHeld 11 = .ok (.istore_n 3, 1) := by decide +kernel
theorem dX8_isTrialHeld_12 : decode cX8_isTrialHeld 12 = .ok (.iload_n 3, 1) := by decide +kernel
theorem dX8_isTrialHeld_13 : decode cX8_isTrialHeld 13 = .ok (.aload_n 1, 1) := by decide +kernel
theorem dX8_isTrialHeld_14 : decode cX8_isTrialHeld 14 = .ok (.getfield 92, 3) := by decide +kernel
theorem dX8_isTrialHeld_17 : decode cX8_isTrialHeld 17 = .ok (.if_icmp .ge 40, 3) := by decide +kernel
theorem dX8_isTrialHeld_20 : decode cX8_isTrialHeld 20 = .ok (.aload_n 0, 1) := by decide +kernel
theorem dX8_isTrialHeld_21 : decode cX8_isTrialHeld 21 = .ok (.getfield 15, 3) := by decide +kernel
theorem dX8_isTrialHeld_24 : decode cX8_isTrialHeld 24 = .ok (.iload_n 3, 1) := by decide +kernel
theorem dX8_isTrialHeld_25 : decode cX8_isTrialHeld 25 = .ok (.iaload, 1) := by decide +kernel
theorem dX8_isTrialHeld_26 : decode cX8_isTrialHeld 26 = .ok (.aload_n 1, 1) := by decide +kernel
theorem dX8_isTrialHeld_27 : decode cX8_isTrialHeld 27 = .ok (.getfield 69, 3) := by decide +kernel
theorem dX8_isTrialHeld_30 : decode cX8_isTrialHeld 30 = .ok (.iload_n 3, 1) := by decide +kernel
theorem dX8_isTrialHeld_31 : decode cX8_isTrialHeld 31 = .ok (.iaload, 1) := by decide +kernel
theorem dX8_isTrialHeld_32 : decode cX8_isTrialHeld 32 = .ok (.if_icmp .eq 19, 3) := by decide +kernel
theorem dX8_isTrialHeld_35 : decode cX8_isTrialHeld 35 = .ok (.aload_n 0, 1) := by decide +kernel
theorem dX8_isTrialHeld_36 : decode cX8_isTrialHeld 36 = .ok (.iload_n 3, 1) := by decide +kernel
theorem dX8_isTrialHeld_37 : decode cX8_isTrialHeld 37 = .ok (.aload_n 0, 1) := by decide +kernel
theorem dX8_isTrialHeld_38 : decode cX8_isTrialHeld 38 = .ok (.getfield 15, 3) := by decide +kernel
theorem dX8_isTrialHeld_41 : decode cX8_isTrialHeld 41 = .ok (.iload_n 3, 1) := by decide +kernel
theorem dX8_isTrialHeld_42 : decode cX8_isTrialHeld 42 = .ok (.iaload, 1) := by decide +kernel
theorem dX8_isTrialHeld_43 : decode cX8_isTrialHeld 43 = .ok (.invokevirtual 95, 3) := by decide +kernel
theorem dX8_isTrialHeld_46 : decode cX8_isTrialHeld 46 = .ok (.ifCond .eq 5, 3) := by decide +kernel
theorem dX8_isTrialHeld_49 : decode cX8_isTrialHeld 49 = .ok (.iconst 1, 1) := by decide +kernel
theorem dX8_isTrialHeld_50 : decode cX8_isTrialHeld 50 = .ok (.ireturn, 1) := by decide +kernel
theorem dX8_isTrialHeld_51 : decode cX8_isTrialHeld 51 = .ok (.iinc 3 1, 3) := by decide +kernel
theorem dX8_isTrialHeld_54 : decode cX8_isTrialHeld 54 = .ok (.goto (-42), 3) := by decide +kernel
theorem dX8_isTrialHeld_57 : decode cX8_isTrialHeld 57 = .ok (.iconst 0, 1) := by decide +kernel
theorem dX8_isTrialHeld_58 : decode cX8_isTrialHeld 58 = .ok (.ireturn, 1) := by decide +kernel
theorem dX8_heldMoves_0 : decode cX8_heldMoves 0 = .ok (.iconst 0, 1) := by decide +kernel
theorem dX8_heldMoves_1 : decode cX8_heldMoves 1 = .ok (.istore_n 2, 1) := by decide +kernel
theorem dX8_heldMoves_2 : decode cX8_heldMoves 2 = .ok (.iconst 0, 1) := by decide +kernel
theorem dX8_heldMoves_3 : decode cX8_heldMoves 3 = .ok (.istore_n 3, 1) := by decide +kernel
theorem dX8_heldMoves_4 : decode cX8_heldMoves 4 = .ok (.iload_n 3, 1) := by decide +kernel
theorem dX8_heldMoves_5 : decode cX8_heldMoves 5 = .ok (.aload_n 0, 1) := by decide +kernel
theorem dX8_heldMoves_6 : decode cX8_heldMoves 6 = .ok (.getfield 26, 3) := by decide +kernel
theorem dX8_heldMoves_9 : decode cX8_heldMoves 9 = .ok (.getfield 99, 3) := by decide +kernel
theorem dX8_heldMoves_12 : decode cX8_heldMoves 12 = .ok (.if_icmp .ge 26, 3) := by decide +kernel
theorem dX8_heldMoves_15 : decode cX8_heldMoves 15 = .ok (.aload_n 0, 1) := by decide +kernel
theorem dX8_heldMoves_16 : decode cX8_heldMoves 16 = .ok (.aload_n 1, 1) := by decide +kernel
theorem dX8_heldMoves_17 : decode cX8_heldMoves 17 = .ok (.aload_n 0, 1) := by decide +kernel
theorem dX8_heldMoves_18 : decode cX8_heldMoves 18 = .ok (.aload_n 1, 1) := by decide +kernel
theorem dX8_heldMoves_19 : decode cX8_heldMoves 19 = .ok (.iload_n 3, 1) := by decide +kernel
theorem dX8_heldMoves_20 : decode cX8_heldMoves 20 = .ok (.invokevirtual 102, 3) := by decide +kernel
theorem dX8_heldMoves_23 : decode cX8_heldMoves 23 = .ok (.invokevirtual 106, 3) := by decide +kernel
theorem dX8_heldMoves_26 : decode cX8_heldMoves 26 = .ok (.ifCond .eq 6, 3) := by decide +kernel
theorem dX8_heldMoves_29 : decode cX8_heldMoves 29 = .ok (.iinc 2 1, 3) := by decide +kernel
theorem dX8_heldMoves_32 : decode cX8_heldMoves 32 = .ok (.iinc 3 1, 3) := by decide +kernel
theorem dX8_heldMoves_35 : decode cX8_heldMoves 35 = .ok (.goto (-31), 3) := by decide +kernel
theorem dX8_heldMoves_38 : decode cX8_heldMoves 38 = .ok (.iload_n 2, 1) := by decide +kernel
theorem dX8_heldMoves_39 : decode cX8_heldMoves 39 = .ok (.ireturn, 1) := by decide +kernel
theorem dX8_cheapest_0 : decode cX8_cheapest 0 = .ok (.aload_n 0, 1) := by decide +kernel
theorem dX8_cheapest_1 : decode cX8_cheapest 1 = .ok (.getfield 26, 3) := by decide +kernel
theorem dX8_cheapest_4 : decode cX8_cheapest 4 = .ok (.aload_n 1, 1) := by decide +kernel
theorem dX8_cheapest_5 : decode cX8_cheapest 5 = .ok (.iload_n 2, 1) := by decide +kernel
theorem dX8_cheapest_6 : decode cX8_cheapest 6 = .ok (.invokevirtual 110, 3) := by decide +kernel
theorem dX8_cheapest_9 : decode cX8_cheapest 9 = .ok (.iconst (-1), 1) := by decide +kernel
theorem dX8_cheapest_10 : decode cX8_cheapest 10 = .ok (.istore 4, 2) := by decide +kernel
theorem dX8_cheapest_12 : decode cX8_cheapest 12 = .ok (.iconst 0, 1) := by decide +kernel
theorem dX8_cheapest_13 : decode cX8_cheapest 13 = .ok (.istore 5, 2) := by decide +kernel
theorem dX8_cheapest_15 : decode cX8_cheapest 15 = .ok (.iconst 0, 1) := by decide +kernel
theorem dX8_cheapest_16 : decode cX8_cheapest 16 = .ok (.istore 6, 2) := by decide +kernel
theorem dX8_cheapest_18 : decode cX8_cheapest 18 = .ok (.iload 6, 2) := by decide +kernel
theorem dX8_cheapest_20 : decode cX8_cheapest 20 = .ok (.aload_n 0, 1) := by decide +kernel
theorem dX8_cheapest_21 : decode cX8_cheapest 21 = .ok (.getfield 26, 3) := by decide +kernel
theorem dX8_cheapest_24 : decode cX8_cheapest 24 = .ok (.getfield 99, 3) := by decide +kernel
theorem dX8_cheapest_27 : decode cX8_cheapest 27 = .ok (.if_icmp .ge 65, 3) := by decide +kernel
theorem dX8_cheapest_30 : decode cX8_cheapest 30 = .ok (.aload_n 0, 1) := by decide +kernel
theorem dX8_cheapest_31 : decode cX8_cheapest 31 = .ok (.aload_n 1, 1) := by decide +kernel
theorem dX8_cheapest_32 : decode cX8_cheapest 32 = .ok (.iload 6, 2) := by decide +kernel
theorem dX8_cheapest_34 : decode cX8_cheapest 34 = .ok (.invokevirtual 102, 3) := by decide +kernel
theorem dX8_cheapest_37 : decode cX8_cheapest 37 = .ok (.istore 7, 2) := by decide +kernel
theorem dX8_cheapest_39 : decode cX8_cheapest 39 = .ok (.iload 4, 2) := by decide +kernel
theorem dX8_cheapest_41 : decode cX8_cheapest 41 = .ok (.iconst (-1), 1) := by decide +kernel
theorem dX8_cheapest_42 : decode cX8_cheapest 42 = .ok (.if_icmp .eq 10, 3) := by decide +kernel
theorem dX8_cheapest_45 : decode cX8_cheapest 45 = .ok (.iload 7, 2) := by decide +kernel
theorem dX8_cheapest_47 : decode cX8_cheapest 47 = .ok (.iload 5, 2) := by decide +kernel
theorem dX8_cheapest_49 : decode cX8_cheapest 49 = .ok (.if_icmp .ge 7, 3) := by decide +kernel
theorem dX8_cheapest_52 : decode cX8_cheapest 52 = .ok (.iconst 1, 1) := by decide +kernel
theorem dX8_cheapest_53 : decode cX8_cheapest 53 = .ok (.goto 4, 3) := by decide +kernel
theorem dX8_cheapest_56 : decode cX8_cheapest 56 = .ok (.iconst 0, 1) := by decide +kernel
theorem dX8_cheapest_57 : decode cX8_cheapest 57 = .ok (.istore 8, 2) := by decide +kernel
theorem dX8_cheapest_59 : decode cX8_cheapest 59 = .ok (.iload 8, 2) := by decide +kernel
theorem dX8_cheapest_61 : decode cX8_cheapest 61 = .ok (.ifCond .eq 25, 3) := by decide +kernel
theorem dX8_cheapest_64 : decode cX8_cheapest 64 = .ok (.iload_n 3, 1) := by decide +kernel
theorem dX8_cheapest_65 : decode cX8_cheapest 65 = .ok (.ifCond .ne 13, 3) := by decide +kernel
theorem dX8_cheapest_68 : decode cX8_cheapest 68 = .ok (.aload_n 0, 1) := by decide +kernel
theorem dX8_cheapest_69 : decode cX8_cheapest 69 = .ok (.aload_n 1, 1) := by decide +kernel
theorem dX8_cheapest_70 : decode cX8_cheapest 70 = .ok (.iload 7, 2) := by decide +kernel
theorem dX8_cheapest_72 : decode cX8_cheapest 72 = .ok (.invokevirtual 106, 3) := by decide +kernel
theorem dX8_cheapest_75 : decode cX8_cheapest 75 = .ok (.ifCond .ne 11, 3) := by decide +kernel
theorem dX8_cheapest_78 : decode cX8_cheapest 78 = .ok (.iload 6, 2) := by decide +kernel
theorem dX8_cheapest_80 : decode cX8_cheapest 80 = .ok (.istore 4, 2) := by decide +kernel
theorem dX8_cheapest_82 : decode cX8_cheapest 82 = .ok (.iload 7, 2) := by decide +kernel
theorem dX8_cheapest_84 : decode cX8_cheapest 84 = .ok (.istore 5, 2) := by decide +kernel
theorem dX8_cheapest_86 : decode cX8_cheapest 86 = .ok (.iinc 6 1, 3) := by decide +kernel
theorem dX8_cheapest_89 : decode cX8_cheapest 89 = .ok (.goto (-71), 3) := by decide +kernel
theorem dX8_cheapest_92 : decode cX8_cheapest 92 = .ok (.iload 4, 2) := by decide +kernel
theorem dX8_cheapest_94 : decode cX8_cheapest 94 = .ok (.ireturn, 1) := by decide +kernel
theorem dX8_downhill_0 : decode cX8_downhill 0 = .ok (.aload_n 0, 1) := by decide +kernel
theorem dX8_downhill_1 : decode cX8_downhill 1 = .ok (.aload_n 1, 1) := by decide +kernel
theorem dX8_downhill_2 : decode cX8_downhill 2 = .ok (.iload_n 2, 1) := by decide +kernel
theorem dX8_downhill_3 : decode cX8_downhill 3 = .ok (.iconst 1, 1) := by decide +kernel
theorem dX8_downhill_4 : decode cX8_downhill 4 = .ok (.invokevirtual 112, 3) := by decide +kernel
theorem dX8_downhill_7 : decode cX8_downhill 7 = .ok (.istore_n 3, 1) := by decide +kernel
theorem dX8_downhill_8 : decode cX8_downhill 8 = .ok (.iload_n 3, 1) := by decide +kernel
theorem dX8_downhill_9 : decode cX8_downhill 9 = .ok (.iconst (-1), 1) := by decide +kernel
theorem dX8_downhill_10 : decode cX8_downhill 10 = .ok (.if_icmp .eq 16, 3) := by decide +kernel
theorem dX8_downhill_13 : decode cX8_downhill 13 = .ok (.aload_n 0, 1) := by decide +kernel
theorem dX8_downhill_14 : decode cX8_downhill 14 = .ok (.aload_n 1, 1) := by decide +kernel
theorem dX8_downhill_15 : decode cX8_downhill 15 = .ok (.iload_n 3, 1) := by decide +kernel
theorem dX8_downhill_16 : decode cX8_downhill 16 = .ok (.invokevirtual 102, 3) := by decide +kernel
theorem dX8_downhill_19 : decode cX8_downhill 19 = .ok (.aload_n 1, 1) := by decide +kernel
theorem dX8_downhill_20 : decode cX8_downhill 20 = .ok (.invokevirtual 59, 3) := by decide +kernel
theorem dX8_downhill_23 : decode cX8_downhill 23 = .ok (.if_icmp .lt 5, 3) := by decide +kernel
theorem dX8_downhill_26 : decode cX8_downhill 26 = .ok (.iconst (-1), 1) := by decide +kernel
theorem dX8_downhill_27 : decode cX8_downhill 27 = .ok (.ireturn, 1) := by decide +kernel
theorem dX8_downhill_28 : decode cX8_downhill 28 = .ok (.iload_n 3, 1) := by decide +kernel
theorem dX8_downhill_29 : decode cX8_downhill 29 = .ok (.ireturn, 1) := by decide +kernel
theorem dX8_goDown_0 : decode cX8_goDown 0 = .ok (.aload_n 0, 1) := by decide +kernel
theorem dX8_goDown_1 : decode cX8_goDown 1 = .ok (.aload_n 1, 1) := by decide +kernel
theorem dX8_goDown_2 : decode cX8_goDown 2 = .ok (.iload_n 2, 1) := by decide +kernel
theorem dX8_goDown_3 : decode cX8_goDown 3 = .ok (.invokevirtual 102, 3) := by decide +kernel
theorem dX8_goDown_6 : decode cX8_goDown 6 = .ok (.istore_n 3, 1) := by decide +kernel
theorem dX8_goDown_7 : decode cX8_goDown 7 = .ok (.aload_n 1, 1) := by decide +kernel
theorem dX8_goDown_8 : decode cX8_goDown 8 = .ok (.aload_n 0, 1) := by decide +kernel
theorem dX8_goDown_9 : decode cX8_goDown 9 = .ok (.getfield 15, 3) := by decide +kernel
theorem dX8_goDown_12 : decode cX8_goDown 12 = .ok (.invokevirtual 116, 3) := by decide +kernel
theorem dX8_goDown_15 : decode cX8_goDown 15 = .ok (.aload_n 0, 1) := by decide +kernel
theorem dX8_goDown_16 : decode cX8_goDown 16 = .ok (.aload_n 1, 1) := by decide +kernel
theorem dX8_goDown_17 : decode cX8_goDown 17 = .ok (.iload_n 3, 1) := by decide +kernel
theorem dX8_goDown_18 : decode cX8_goDown 18 = .ok (.invokevirtual 120, 3) := by decide +kernel
theorem dX8_goDown_21 : decode cX8_goDown 21 = .ok (.pop, 1) := by decide +kernel
theorem dX8_goDown_22 : decode cX8_goDown 22 = .ok (.return_, 1) := by decide +kernel
theorem dX8_tryStep_0 : decode cX8_tryStep 0 = .ok (.aload_n 0, 1) := by decide +kernel
theorem dX8_tryStep_1 : decode cX8_tryStep 1 = .ok (.aload_n 1, 1) := by decide +kernel
theorem dX8_tryStep_2 : decode cX8_tryStep 2 = .ok (.aload_n 2, 1) := by decide +kernel
theorem dX8_tryStep_3 : decode cX8_tryStep 3 = .ok (.getfield 123, 3) := by decide +kernel
theorem dX8_tryStep_6 : decode cX8_tryStep 6 = .ok (.iconst 0, 1) := by decide +kernel
theorem dX8_tryStep_7 : decode cX8_tryStep 7 = .ok (.invokevirtual 112, 3) := by decide +kernel
theorem dX8_tryStep_10 : decode cX8_tryStep 10 = .ok (.istore_n 3, 1) := by decide +kernel
theorem dX8_tryStep_11 : decode cX8_tryStep 11 = .ok (.iload_n 3, 1) := by decide +kernel
theorem dX8_tryStep_12 : decode cX8_tryStep 12 = .ok (.iconst (-1), 1) := by decide +kernel
theorem dX8_tryStep_13 : decode cX8_tryStep 13 = .ok (.if_icmp .ne 5, 3) := by decide +kernel
theorem dX8_tryStep_16 : decode cX8_tryStep 16 = .ok (.iconst 0, 1) := by decide +kernel
theorem dX8_tryStep_17 : decode cX8_tryStep 17 = .ok (.ireturn, 1) := by decide +kernel
theorem dX8_tryStep_18 : decode cX8_tryStep 18 = .ok (.aload_n 1, 1) := by decide +kernel
theorem dX8_tryStep_19 : decode cX8_tryStep 19 = .ok (.invokevirtual 59, 3) := by decide +kernel
theorem dX8_tryStep_22 : decode cX8_tryStep 22 = .ok (.istore 4, 2) := by decide +kernel
theorem dX8_tryStep_24 : decode cX8_tryStep 24 = .ok (.aload_n 0, 1) := by decide +kernel
theorem dX8_tryStep_25 : decode cX8_tryStep 25 = .ok (.aload_n 1, 1) := by decide +kernel
theorem dX8_tryStep_26 : decode cX8_tryStep 26 = .ok (.iload_n 3, 1) := by decide +kernel
theorem dX8_tryStep_27 : decode cX8_tryStep 27 = .ok (.invokevirtual 102, 3) := by decide +kernel
theorem dX8_tryStep_30 : decode cX8_tryStep 30 = .ok (.istore 5, 2) := by decide +kernel
theorem dX8_tryStep_32 : decode cX8_tryStep 32 = .ok (.aload_n 0, 1) := by decide +kernel
theorem dX8_tryStep_33 : decode cX8_tryStep 33 = .ok (.dup, 1) := by decide +kernel
theorem dX8_tryStep_34 : decode cX8_tryStep 34 = .ok (.getfield 44, 3) := by decide +kernel
theorem dX8_tryStep_37 : decode cX8_tryStep 37 = .ok (.iconst 1, 1) := by decide +kernel
theorem dX8_tryStep_38 : decode cX8_tryStep 38 = .ok (.iadd, 1) := by decide +kernel
theorem dX8_tryStep_39 : decode cX8_tryStep 39 = .ok (.putfield 44, 3) := by decide +kernel
theorem dX8_tryStep_42 : decode cX8_tryStep 42 = .ok (.aload_n 0, 1) := by decide +kernel
theorem dX8_tryStep_43 : decode cX8_tryStep 43 = .ok (.aload_n 1, 1) := by decide +kernel
theorem dX8_tryStep_44 : decode cX8_tryStep 44 = .ok (.aload_n 2, 1) := by decide +kernel
theorem dX8_tryStep_45 : decode cX8_tryStep 45 = .ok (.getfield 128, 3) := by decide +kernel
theorem dX8_tryStep_48 : decode cX8_tryStep 48 = .ok (.invokevirtual 131, 3) := by decide +kernel
theorem dX8_tryStep_51 : decode cX8_tryStep 51 = .ok (.aload_n 1, 1) := by decide +kernel
theorem dX8_tryStep_52 : decode cX8_tryStep 52 = .ok (.aload_n 0, 1) := by decide +kernel
theorem dX8_tryStep_53 : decode cX8_tryStep 53 = .ok (.getfield 15, 3) := by decide +kernel
theorem dX8_tryStep_56 : decode cX8_tryStep 56 = .ok (.invokevirtual 116, 3) := by decide +kernel
theorem dX8_tryStep_59 : decode cX8_tryStep 59 = .ok (.aload_n 0, 1) := by decide +kernel
theorem dX8_tryStep_60 : decode cX8_tryStep 60 = .ok (.getfield 33, 3) := by decide +kernel
theorem dX8_tryStep_63 : decode cX8_tryStep 63 = .ok (.aload_n 0, 1) := by decide +kernel
theorem dX8_tryStep_64 : decode cX8_tryStep 64 = .ok (.getfield 26, 3) := by decide +kernel
theorem dX8_tryStep_67 : decode cX8_tryStep 67 = .ok (.iload_n 3, 1) := by decide +kernel
theorem dX8_tryStep_68 : decode cX8_tryStep 68 = .ok (.iload 4, 2) := by decide +kernel
theorem dX8_tryStep_70 : decode cX8_tryStep 70 = .ok (.iload 5, 2) := by decide +kernel
theorem dX8_tryStep_72 : decode cX8_tryStep 72 = .ok (.aload_n 0, 1) := by decide +kernel
theorem dX8_tryStep_73 : decode cX8_tryStep 73 = .ok (.getfield 44, 3) := by decide +kernel
theorem dX8_tryStep_76 : decode cX8_tryStep 76 = .ok (.invokevirtual 134, 3) := by decide +kernel
theorem dX8_tryStep_79 : decode cX8_tryStep 79 = .ok (.aload_n 0, 1) := by decide +kernel
theorem dX8_tryStep_80 : decode cX8_tryStep 80 = .ok (.aload_n 0, 1) := by decide +kernel
theorem dX8_tryStep_81 : decode cX8_tryStep 81 = .ok (.aload_n 1, 1) := by decide +kernel
theorem dX8_tryStep_82 : decode cX8_tryStep 82 = .ok (.iload 5, 2) := by decide +kernel
theorem dX8_tryStep_84 : decode cX8_tryStep 84 = .ok (.invokevirtual 120, 3) := by decide +kernel
theorem dX8_tryStep_87 : decode cX8_tryStep 87 = .ok (.ifCond .eq 7, 3) := by decide +kernel
theorem dX8_tryStep_90 : decode cX8_tryStep 90 = .ok (.iconst 0, 1) := by decide +kernel
theorem dX8_tryStep_91 : decode cX8_tryStep 91 = .ok (.goto 9, 3) := by decide +kernel
theorem dX8_tryStep_94 : decode cX8_tryStep 94 = .ok (.aload_n 0, 1) := by decide +kernel
theorem dX8_tryStep_95 : decode cX8_tryStep 95 = .ok (.getfield 47, 3) := by decide +kernel
theorem dX8_tryStep_98 : decode cX8_tryStep 98 = .ok (.iconst 1, 1) := by decide +kernel
theorem dX8_tryStep_99 : decode cX8_tryStep 99 = .ok (.iadd, 1) := by decide +kernel
theorem dX8_tryStep_100 : decode cX8_tryStep 100 = .ok (.putfield 47, 3) := by decide +kernel
theorem dX8_tryStep_103 : decode cX8_tryStep 103 = .ok (.aload_n 0, 1) := by decide +kernel
theorem dX8_tryStep_104 : decode cX8_tryStep 104 = .ok (.getfield 47, 3) := by decide +kernel
theorem dX8_tryStep_107 : decode cX8_tryStep 107 = .ok (.aload_n 2, 1) := by decide +kernel
theorem dX8_tryStep_108 : decode cX8_tryStep 108 = .ok (.getfield 138, 3) := by decide +kernel
theorem dX8_tryStep_111 : decode cX8_tryStep 111 = .ok (.if_icmp .lt 9, 3) := by decide +kernel
theorem dX8_tryStep_114 : decode cX8_tryStep 114 = .ok (.aload_n 0, 1) := by decide +kernel
theorem dX8_tryStep_115 : decode cX8_tryStep 115 = .ok (.aload_n 1, 1) := by decide +kernel
theorem dX8_tryStep_116 : decode cX8_tryStep 116 = .ok (.aload_n 2, 1) := by decide +kernel
theorem dX8_tryStep_117 : decode cX8_tryStep 117 = .ok (.invokevirtual 141, 3) := by decide +kernel
theorem dX8_tryStep_120 : decode cX8_tryStep 120 = .ok (.iconst 1, 1) := by decide +kernel
theorem dX8_tryStep_121 : decode cX8_tryStep 121 = .ok (.ireturn, 1) := by decide +kernel
theorem dX8_banLeftValues_0 : decode cX8_banLeftValues 0 = .ok (.iconst 0, 1) := by decide +kernel
theorem dX8_banLeftValues_1 : decode cX8_banLeftValues 1 = .ok (.istore_n 3, 1) := by decide +kernel
theorem dX8_banLeftValues_2 : decode cX8_banLeftValues 2 = .ok (.iload_n 3, 1) := by decide +kernel
theorem dX8_banLeftValues_3 : decode cX8_banLeftValues 3 = .ok (.aload_n 1, 1) := by decide +kernel
theorem dX8_banLeftValues_4 : decode cX8_banLeftValues 4 = .ok (.getfield 92, 3) := by decide +kernel
theorem dX8_banLeftValues_7 : decode cX8_banLeftValues 7 = .ok (.if_icmp .ge 57, 3) := by decide +kernel
theorem dX8_banLeftValues_10 : decode cX8_banLeftValues 10 = .ok (.aload_n 1, 1) := by decide +kernel
theorem dX8_banLeftValues_11 : decode cX8_banLeftValues 11 = .ok (.getfield 69, 3) := by decide +kernel
theorem dX8_banLeftValues_14 : decode cX8_banLeftValues 14 = .ok (.iload_n 3, 1) := by decide +kernel
theorem dX8_banLeftValues_15 : decode cX8_banLeftValues 15 = .ok (.iaload, 1) := by decide +kernel
theorem dX8_banLeftValues_16 : decode cX8_banLeftValues 16 = .ok (.istore 4, 2) := by decide +kernel
theorem dX8_banLeftValues_18 : decode cX8_banLeftValues 18 = .ok (.aload_n 0, 1) := by decide +kernel
theorem dX8_banLeftValues_19 : decode cX8_banLeftValues 19 = .ok (.getfield 15, 3) := by decide +kernel
theorem dX8_banLeftValues_22 : decode cX8_banLeftValues 22 = .ok (.iload_n 3, 1) := by decide +kernel
theorem dX8_banLeftValues_23 : decode cX8_banLeftValues 23 = .ok (.iaload, 1) := by decide +kernel
theorem dX8_banLeftValues_24 : decode cX8_banLeftValues 24 = .ok (.iload 4, 2) := by decide +kernel
theorem dX8_banLeftValues_26 : decode cX8_banLeftValues 26 = .ok (.if_icmp .eq 32, 3) := by decide +kernel
theorem dX8_banLeftValues_29 : decode cX8_banLeftValues 29 = .ok (.aload_n 0, 1) := by decide +kernel
theorem dX8_banLeftValues_30 : decode cX8_banLeftValues 30 = .ok (.getfield 20, 3) := by decide +kernel
theorem dX8_banLeftValues_33 : decode cX8_banLeftValues 33 = .ok (.iload_n 3, 1) := by decide +kernel
theorem dX8_banLeftValues_34 : decode cX8_banLeftValues 34 = .ok (.aaload, 1) := by decide +kernel
theorem dX8_banLeftValues_35 : decode cX8_banLeftValues 35 = .ok (.iload 4, 2) := by decide +kernel
theorem dX8_banLeftValues_37 : decode cX8_banLeftValues 37 = .ok (.aload_n 0, 1) := by decide +kernel
theorem dX8_banLeftValues_38 : decode cX8_banLeftValues 38 = .ok (.getfield 20, 3) := by decide +kernel
theorem dX8_banLeftValues_41 : decode cX8_banLeftValues 41 = .ok (.iload_n 3, 1) := by decide +kernel
theorem dX8_banLeftValues_42 : decode cX8_banLeftValues 42 = .ok (.aaload, 1) := by decide +kernel
theorem dX8_banLeftValues_43 : decode cX8_banLeftValues 43 = .ok (.iload 4, 2) := by decide +kernel
theorem dX8_banLeftValues_45 : decode cX8_banLeftValues 45 = .ok (.iaload, 1) := by decide +kernel
theorem dX8_banLeftValues_46 : decode cX8_banLeftValues 46 = .ok (.aload_n 0, 1) := by decide +kernel
theorem dX8_banLeftValues_47 : decode cX8_banLeftValues 47 = .ok (.getfield 44, 3) := by decide +kernel
theorem dX8_banLeftValues_50 : decode cX8_banLeftValues 50 = .ok (.iload_n 2, 1) := by decide +kernel
theorem dX8_banLeftValues_51 : decode cX8_banLeftValues 51 = .ok (.iadd, 1) := by decide +kernel
theorem dX8_banLeftValues_52 : decode cX8_banLeftValues 52 = .ok (.iconst 1, 1) := by decide +kernel
theorem dX8_banLeftValues_53 : decode cX8_banLeftValues 53 = .ok (.iadd, 1) := by decide +kernel
theorem dX8_banLeftValues_54 : decode cX8_banLeftValues 54 = .ok (.invokestatic 145, 3) := by decide +kernel
theorem dX8_banLeftValues_57 : decode cX8_banLeftValues 57 = .ok (.iastore, 1) := by decide +kernel
theorem dX8_banLeftValues_58 : decode cX8_banLeftValues 58 = .ok (.iinc 3 1, 3) := by decide +kernel
theorem dX8_banLeftValues_61 : decode cX8_banLeftValues 61 = .ok (.goto (-59), 3) := by decide +kernel
theorem dX8_banLeftValues_64 : decode cX8_banLeftValues 64 = .ok (.return_, 1) := by decide +kernel
theorem dX8_startAnew_0 : decode cX8_startAnew 0 = .ok (.iconst 0, 1) := by decide +kernel
theorem dX8_startAnew_1 : decode cX8_startAnew 1 = .ok (.istore_n 3, 1) := by decide +kernel
theorem dX8_startAnew_2 : decode cX8_startAnew 2 = .ok (.iload_n 3, 1) := by decide +kernel
theorem dX8_startAnew_3 : decode cX8_startAnew 3 = .ok (.aload_n 1, 1) := by decide +kernel
theorem dX8_startAnew_4 : decode cX8_startAnew 4 = .ok (.getfield 92, 3) := by decide +kernel
theorem dX8_startAnew_7 : decode cX8_startAnew 7 = .ok (.if_icmp .ge 46, 3) := by decide +kernel
theorem dX8_startAnew_10 : decode cX8_startAnew 10 = .ok (.aload_n 2, 1) := by decide +kernel
theorem dX8_startAnew_11 : decode cX8_startAnew 11 = .ok (.invokevirtual 151, 3) := by decide +kernel
theorem dX8_startAnew_14 : decode cX8_startAnew 14 = .ok (.bipush 16, 2) := by decide +kernel
theorem dX8_startAnew_16 : decode cX8_startAnew 16 = .ok (.ishr, 1) := by decide +kernel
theorem dX8_startAnew_17 : decode cX8_startAnew 17 = .ok (.istore 4, 2) := by decide +kernel
theorem dX8_startAnew_19 : decode cX8_startAnew 19 = .ok (.aload_n 1, 1) := by decide +kernel
theorem dX8_startAnew_20 : decode cX8_startAnew 20 = .ok (.getfield 154, 3) := by decide +kernel
theorem dX8_startAnew_23 : decode cX8_startAnew 23 = .ok (.iload_n 3, 1) := by decide +kernel
theorem dX8_startAnew_24 : decode cX8_startAnew 24 = .ok (.iaload, 1) := by decide +kernel
theorem dX8_startAnew_25 : decode cX8_startAnew 25 = .ok (.istore 5, 2) := by decide +kernel
theorem dX8_startAnew_27 : decode cX8_startAnew 27 = .ok (.aload_n 1, 1) := by decide +kernel
theorem dX8_startAnew_28 : decode cX8_startAnew 28 = .ok (.getfield 69, 3) := by decide +kernel
theorem dX8_startAnew_31 : decode cX8_startAnew 31 = .ok (.iload_n 3, 1) := by decide +kernel
theorem dX8_startAnew_32 : decode cX8_startAnew 32 = .ok (.iload 5, 2) := by decide +kernel
theorem dX8_startAnew_34 : decode cX8_startAnew 34 = .ok (.ifCond .le 11, 3) := by decide +kernel
theorem dX8_startAnew_37 : decode cX8_startAnew 37 = .ok (.iload 4, 2) := by decide +kernel
theorem dX8_startAnew_39 : decode cX8_startAnew 39 = .ok (.iload 5, 2) := by decide +kernel
theorem dX8_startAnew_41 : decode cX8_startAnew 41 = .ok (.irem, 1) := by decide +kernel
theorem dX8_startAnew_42 : decode cX8_startAnew 42 = .ok (.goto 4, 3) := by decide +kernel
theorem dX8_startAnew_45 : decode cX8_startAnew 45 = .ok (.iconst 0, 1) := by decide +kernel
theorem dX8_startAnew_46 : decode cX8_startAnew 46 = .ok (.iastore, 1) := by decide +kernel
theorem dX8_startAnew_47 : decode cX8_startAnew 47 = .ok (.iinc 3 1, 3) := by decide +kernel
theorem dX8_startAnew_50 : decode cX8_startAnew 50 = .ok (.goto (-48), 3) := by decide +kernel
theorem dX8_startAnew_53 : decode cX8_startAnew 53 = .ok (.aload_n 0, 1) := by decide +kernel
theorem dX8_startAnew_54 : decode cX8_startAnew 54 = .ok (.invokevirtual 56, 3) := by decide +kernel
theorem dX8_startAnew_57 : decode cX8_startAnew 57 = .ok (.aload_n 0, 1) := by decide +kernel
theorem dX8_startAnew_58 : decode cX8_startAnew 58 = .ok (.iconst 0, 1) := by decide +kernel
theorem dX8_startAnew_59 : decode cX8_startAnew 59 = .ok (.putfield 47, 3) := by decide +kernel
theorem dX8_startAnew_62 : decode cX8_startAnew 62 = .ok (.aload_n 0, 1) := by decide +kernel
theorem dX8_startAnew_63 : decode cX8_startAnew 63 = .ok (.dup, 1) := by decide +kernel
theorem dX8_startAnew_64 : decode cX8_startAnew 64 = .ok (.getfield 50, 3) := by decide +kernel
theorem dX8_startAnew_67 : decode cX8_startAnew 67 = .ok (.iconst 1, 1) := by decide +kernel
theorem dX8_startAnew_68 : decode cX8_startAnew 68 = .ok (.iadd, 1) := by decide +kernel
theorem dX8_startAnew_69 : decode cX8_startAnew 69 = .ok (.putfield 50, 3) := by decide +kernel
theorem dX8_startAnew_72 : decode cX8_startAnew 72 = .ok (.aload_n 0, 1) := by decide +kernel
theorem dX8_startAnew_73 : decode cX8_startAnew 73 = .ok (.aload_n 1, 1) := by decide +kernel
theorem dX8_startAnew_74 : decode cX8_startAnew 74 = .ok (.aload_n 1, 1) := by decide +kernel
theorem dX8_startAnew_75 : decode cX8_startAnew 75 = .ok (.aload_n 1, 1) := by decide +kernel
theorem dX8_startAnew_76 : decode cX8_startAnew 76 = .ok (.getfield 69, 3) := by decide +kernel
theorem dX8_startAnew_79 : decode cX8_startAnew 79 = .ok (.invokevirtual 88, 3) := by decide +kernel
theorem dX8_startAnew_82 : decode cX8_startAnew 82 = .ok (.invokevirtual 120, 3) := by decide +kernel
theorem dX8_startAnew_85 : decode cX8_startAnew 85 = .ok (.pop, 1) := by decide +kernel
theorem dX8_startAnew_86 : decode cX8_startAnew 86 = .ok (.return_, 1) := by decide +kernel
theorem dX8_reliefOf_0 : decode cX8_reliefOf 0 = .ok (.aload_n 1, 1) := by decide +kernel
theorem dX8_reliefOf_1 : decode cX8_reliefOf 1 = .ok (.getfield 69, 3) := by decide +kernel
theorem dX8_reliefOf_4 : decode cX8_reliefOf 4 = .ok (.iconst 0, 1) := by decide +kernel
theorem dX8_reliefOf_5 : decode cX8_reliefOf 5 = .ok (.aload_n 0, 1) := by decide +kernel
theorem dX8_reliefOf_6 : decode cX8_reliefOf 6 = .ok (.getfield 15, 3) := by decide +kernel
theorem dX8_reliefOf_9 : decode cX8_reliefOf 9 = .ok (.iconst 0, 1) := by decide +kernel
theorem dX8_reliefOf_10 : decode cX8_reliefOf 10 = .ok (.bipush 10, 2) := by decide +kernel
theorem dX8_reliefOf_12 : decode cX8_reliefOf 12 = .ok (.invokestatic 72, 3) := by decide +kernel
theorem dX8_reliefOf_15 : decode cX8_reliefOf 15 = .ok (.ldc 157, 2) := by decide +kernel
theorem dX8_reliefOf_17 : decode cX8_reliefOf 17 = .ok (.istore_n 3, 1) := by decide +kernel
theorem dX8_reliefOf_18 : decode cX8_reliefOf 18 = .ok (.iconst 0, 1) := by decide +kernel
theorem dX8_reliefOf_19 : decode cX8_reliefOf 19 = .ok (.istore 4, 2) := by decide +kernel
theorem dX8_reliefOf_21 : decode cX8_reliefOf 21 = .ok (.iload 4, 2) := by decide +kernel
theorem dX8_reliefOf_23 : decode cX8_reliefOf 23 = .ok (.aload_n 1, 1) := by decide +kernel
theorem dX8_reliefOf_24 : decode cX8_reliefOf 24 = .ok (.getfield 154, 3) := by decide +kernel
theorem dX8_reliefOf_27 : decode cX8_reliefOf 27 = .ok (.iload_n 2, 1) := by decide +kernel
theorem dX8_reliefOf_28 : decode cX8_reliefOf 28 = .ok (.iaload, 1) := by decide +kernel
theorem dX8_reliefOf_29 : decode cX8_reliefOf 29 = .ok (.if_icmp .ge 41, 3) := by decide +kernel
theorem dX8_reliefOf_32 : decode cX8_reliefOf 32 = .ok (.iload 4, 2) := by decide +kernel
theorem dX8_reliefOf_34 : decode cX8_reliefOf 34 = .ok (.aload_n 1, 1) := by decide +kernel
theorem dX8_reliefOf_35 : decode cX8_reliefOf 35 = .ok (.getfield 69, 3) := by decide +kernel
theorem dX8_reliefOf_38 : decode cX8_reliefOf 38 = .ok (.iload_n 2, 1) := by decide +kernel
theorem dX8_reliefOf_39 : decode cX8_reliefOf 39 = .ok (.iaload, 1) := by decide +kernel
theorem dX8_reliefOf_40 : decode cX8_reliefOf 40 = .ok (.if_icmp .eq 24, 3) := by decide +kernel
theorem dX8_reliefOf_43 : decode cX8_reliefOf 43 = .ok (.aload_n 0, 1) := by decide +kernel
theorem dX8_reliefOf_44 : decode cX8_reliefOf 44 = .ok (.getfield 15, 3) := by decide +kernel
theorem dX8_reliefOf_47 : decode cX8_reliefOf 47 = .ok (.iload_n 2, 1) := by decide +kernel
theorem dX8_reliefOf_48 : decode cX8_reliefOf 48 = .ok (.iload 4, 2) := by decide +kernel
theorem dX8_reliefOf_50 : decode cX8_reliefOf 50 = .ok (.iastore, 1) := by decide +kernel
theorem dX8_reliefOf_51 : decode cX8_reliefOf 51 = .ok (.iload_n 3, 1) := by decide +kernel
theorem dX8_reliefOf_52 : decode cX8_reliefOf 52 = .ok (.aload_n 1, 1) := by decide +kernel
theorem dX8_reliefOf_53 : decode cX8_reliefOf 53 = .ok (.aload_n 0, 1) := by decide +kernel
theorem dX8_reliefOf_54 : decode cX8_reliefOf 54 = .ok (.getfield 15, 3) := by decide +kernel
theorem dX8_reliefOf_57 : decode cX8_reliefOf 57 = .ok (.invokevirtual 88, 3) := by decide +kernel
theorem dX8_reliefOf_60 : decode cX8_reliefOf 60 = .ok (.invokestatic 158, 3) := by decide +kernel
theorem dX8_reliefOf_63 : decode cX8_reliefOf 63 = .ok (.istore_n 3, 1) := by decide +kernel
theorem dX8_reliefOf_64 : decode cX8_reliefOf 64 = .ok (.iinc 4 1, 3) := by decide +kernel
theorem dX8_reliefOf_67 : decode cX8_reliefOf 67 = .ok (.goto (-46), 3) := by decide +kernel
theorem dX8_reliefOf_70 : decode cX8_reliefOf 70 = .ok (.aload_n 1, 1) := by decide +kernel
theorem dX8_reliefOf_71 : decode cX8_reliefOf 71 = .ok (.invokevirtual 59, 3) := by decide +kernel
theorem dX8_reliefOf_74 : decode cX8_reliefOf 74 = .ok (.iload_n 3, 1) := by decide +kernel
theorem dX8_reliefOf_75 : decode cX8_reliefOf 75 = .ok (.isub, 1) := by decide +kernel
theorem dX8_reliefOf_76 : decode cX8_reliefOf 76 = .ok (.ireturn, 1) := by decide +kernel
theorem dX9_init_0 : decode cX9_init 0 = .ok (.aload_n 0, 1) := by decide +kernel
theorem dX9_init_1 : decode cX9_init 1 = .ok (.invokespecial 3, 3) := by decide +kernel
theorem dX9_init_4 : decode cX9_init 4 = .ok (.aload_n 0, 1) := by decide +kernel
theorem dX9_init_5 : decode cX9_init 5 = .ok (.new 9, 3) := by decide +kernel
theorem dX9_init_8 : decode cX9_init 8 = .ok (.dup, 1) := by decide +kernel
theorem dX9_init_9 : decode cX9_init 9 = .ok (.invokespecial 11, 3) := by decide +kernel
theorem dX9_init_12 : decode cX9_init 12 = .ok (.putfield 12, 3) := by decide +kernel
theorem dX9_init_15 : decode cX9_init 15 = .ok (.aload_n 0, 1) := by decide +kernel
theorem dX9_init_16 : decode cX9_init 16 = .ok (.new 9, 3) := by decide +kernel
theorem dX9_init_19 : decode cX9_init 19 = .ok (.dup, 1) := by decide +kernel
theorem dX9_init_20 : decode cX9_init 20 = .ok (.invokespecial 11, 3) := by decide +kernel
theorem dX9_init_23 : decode cX9_init 23 = .ok (.putfield 16, 3) := by decide +kernel
theorem dX9_init_26 : decode cX9_init 26 = .ok (.aload_n 0, 1) := by decide +kernel
theorem dX9_init_27 : decode cX9_init 27 = .ok (.new 19, 3) := by decide +kernel
theorem dX9_init_30 : decode cX9_init 30 = .ok (.dup, 1) := by decide +kernel
theorem dX9_init_31 : decode cX9_init 31 = .ok (.invokespecial 21, 3) := by decide +kernel
theorem dX9_init_34 : decode cX9_init 34 = .ok (.putfield 22, 3) := by decide +kernel
theorem dX9_init_37 : decode cX9_init 37 = .ok (.aload_n 0, 1) := by decide +kernel
theorem dX9_init_38 : decode cX9_init 38 = .ok (.new 26, 3) := by decide +kernel
theorem dX9_init_41 : decode cX9_init 41 = .ok (.dup, 1) := by decide +kernel
theorem dX9_init_42 : decode cX9_init 42 = .ok (.invokespecial 28, 3) := by decide +kernel
theorem dX9_init_45 : decode cX9_init 45 = .ok (.putfield 29, 3) := by decide +kernel
theorem dX9_init_48 : decode cX9_init 48 = .ok (.aload_n 0, 1) := by decide +kernel
theorem dX9_init_49 : decode cX9_init 49 = .ok (.new 33, 3) := by decide +kernel
theorem dX9_init_52 : decode cX9_init 52 = .ok (.dup, 1) := by decide +kernel
theorem dX9_init_53 : decode cX9_init 53 = .ok (.invokespecial 35, 3) := by decide +kernel
theorem dX9_init_56 : decode cX9_init 56 = .ok (.putfield 36, 3) := by decide +kernel
theorem dX9_init_59 : decode cX9_init 59 = .ok (.aload_n 0, 1) := by decide +kernel
theorem dX9_init_60 : decode cX9_init 60 = .ok (.new 40, 3) := by decide +kernel
theorem dX9_init_63 : decode cX9_init 63 = .ok (.dup, 1) := by decide +kernel
theorem dX9_init_64 : decode cX9_init 64 = .ok (.invokespecial 42, 3) := by decide +kernel
theorem dX9_init_67 : decode cX9_init 67 = .ok (.putfield 43, 3) := by decide +kernel
theorem dX9_init_70 : decode cX9_init 70 = .ok (.aload_n 0, 1) := by decide +kernel
theorem dX9_init_71 : decode cX9_init 71 = .ok (.new 47, 3) := by decide +kernel
theorem dX9_init_74 : decode cX9_init 74 = .ok (.dup, 1) := by decide +kernel
theorem dX9_init_75 : decode cX9_init 75 = .ok (.invokespecial 49, 3) := by decide +kernel
theorem dX9_init_78 : decode cX9_init 78 = .ok (.putfield 50, 3) := by decide +kernel
theorem dX9_init_81 : decode cX9_init 81 = .ok (.aload_n 0, 1) := by decide +kernel
theorem dX9_init_82 : decode cX9_init 82 = .ok (.new 54, 3) := by decide +kernel
theorem dX9_init_85 : decode cX9_init 85 = .ok (.dup, 1) := by decide +kernel
theorem dX9_init_86 : decode cX9_init 86 = .ok (.invokespecial 56, 3) := by decide +kernel
theorem dX9_init_89 : decode cX9_init 89 = .ok (.putfield 57, 3) := by decide +kernel
theorem dX9_init_92 : decode cX9_init 92 = .ok (.aload_n 0, 1) := by decide +kernel
theorem dX9_init_93 : decode cX9_init 93 = .ok (.iconst 0, 1) := by decide +kernel
theorem dX9_init_94 : decode cX9_init 94 = .ok (.putfield 61, 3) := by decide +kernel
theorem dX9_init_97 : decode cX9_init 97 = .ok (.aload_n 0, 1) := by decide +kernel
theorem dX9_init_98 : decode cX9_init 98 = .ok (.iconst (-1), 1) := by decide +kernel
theorem dX9_init_99 : decode cX9_init 99 = .ok (.putfield 65, 3) := by decide +kernel
theorem dX9_init_102 : decode cX9_init 102 = .ok (.return_, 1) := by decide +kernel
theorem dX9_clear_0 : decode cX9_clear 0 = .ok (.aload_n 0, 1) := by decide +kernel
theorem dX9_clear_1 : decode cX9_clear 1 = .ok (.getfield 12, 3) := by decide +kernel
theorem dX9_clear_4 : decode cX9_clear 4 = .ok (.getfield 69, 3) := by decide +kernel
theorem dX9_clear_7 : decode cX9_clear 7 = .ok (.istore_n 1, 1) := by decide +kernel
theorem dX9_clear_8 : decode cX9_clear 8 = .ok (.aload_n 0, 1) := by decide +kernel
theorem dX9_clear_9 : decode cX9_clear 9 = .ok (.getfield 12, 3) := by decide +kernel
theorem dX9_clear_12 : decode cX9_clear 12 = .ok (.invokevirtual 72, 3) := by decide +kernel
theorem dX9_clear_15 : decode cX9_clear 15 = .ok (.aload_n 0, 1) := by decide +kernel
theorem dX9_clear_16 : decode cX9_clear 16 = .ok (.getfield 22, 3) := by decide +kernel
theorem dX9_clear_19 : decode cX9_clear 19 = .ok (.invokevirtual 75, 3) := by decide +kernel
theorem dX9_clear_22 : decode cX9_clear 22 = .ok (.aload_n 0, 1) := by decide +kernel
theorem dX9_clear_23 : decode cX9_clear 23 = .ok (.getfield 29, 3) := by decide +kernel
theorem dX9_clear_26 : decode cX9_clear 26 = .ok (.invokevirtual 78, 3) := by decide +kernel
theorem dX9_clear_29 : decode cX9_clear 29 = .ok (.aload_n 0, 1) := by decide +kernel
theorem dX9_clear_30 : decode cX9_clear 30 = .ok (.invokevirtual 81, 3) := by decide +kernel
theorem dX9_clear_33 : decode cX9_clear 33 = .ok (.iload_n 1, 1) := by decide +kernel
theorem dX9_clear_34 : decode cX9_clear 34 = .ok (.ireturn, 1) := by decide +kernel
theorem dX9_addVariable_0 : decode cX9_addVariable 0 = .ok (.iload_n 1, 1) := by decide +kernel
theorem dX9_addVariable_1 : decode cX9_addVariable 1 = .ok (.invokestatic 84, 3) := by decide +kernel
theorem dX9_addVariable_4 : decode cX9_addVariable 4 = .ok (.aload_n 0, 1) := by decide +kernel
theorem dX9_addVariable_5 : decode cX9_addVariable 5 = .ok (.getfield 12, 3) := by decide +kernel
theorem dX9_addVariable_8 : decode cX9_addVariable 8 = .ok (.getfield 69, 3) := by decide +kernel
theorem dX9_addVariable_11 : decode cX9_addVariable 11 = .ok (.bipush 10, 2) := by decide +kernel
theorem dX9_addVariable_13 : decode cX9_addVariable 13 = .ok (.if_icmp .lt 11, 3) := by decide +kernel
theorem dX9_addVariable_16 : decode cX9_addVariable 16 = .ok (.new 88, 3) := by decide +kernel
theorem dX9_addVariable_19 : decode cX9_addVariable 19 = .ok (.dup, 1) := by decide +kernel
theorem dX9_addVariable_20 : decode cX9_addVariable 20 = .ok (.invokespecial 90, 3) := by decide +kernel
theorem dX9_addVariable_23 : decode cX9_addVariable 23 = .ok (.athrow, 1) := by decide +kernel
theorem dX9_addVariable_24 : decode cX9_addVariable 24 = .ok (.aload_n 0, 1) := by decide +kernel
theorem dX9_addVariable_25 : decode cX9_addVariable 25 = .ok (.getfield 22, 3) := by decide +kernel
theorem dX9_addVariable_28 : decode cX9_addVariable 28 = .ok (.aload_n 0, 1) := by decide +kernel
theorem dX9_addVariable_29 : decode cX9_addVariable 29 = .ok (.getfield 12, 3) := by decide +kernel
theorem dX9_addVariable_32 : decode cX9_addVariable 32 = .ok (.invokevirtual 91, 3) := by decide +kernel
theorem dX9_addVariable_35 : decode cX9_addVariable 35 = .ok (.aload_n 0, 1) := by decide +kernel
theorem dX9_addVariable_36 : decode cX9_addVariable 36 = .ok (.getfield 12, 3) := by decide +kernel
theorem dX9_addVariable_39 : decode cX9_addVariable 39 = .ok (.iload_n 1, 1) := by decide +kernel
theorem dX9_addVariable_40 : decode cX9_addVariable 40 = .ok (.invokevirtual 95, 3) := by decide +kernel
theorem dX9_addVariable_43 : decode cX9_addVariable 43 = .ok (.aload_n 0, 1) := by decide +kernel
theorem dX9_addVariable_44 : decode cX9_addVariable 44 = .ok (.invokevirtual 81, 3) := by decide +kernel
theorem dX9_addVariable_47 : decode cX9_addVariable 47 = .ok (.aload_n 0, 1) := by decide +kernel
theorem dX9_addVariable_48 : decode cX9_addVariable 48 = .ok (.getfield 12, 3) := by decide +kernel
theorem dX9_addVariable_51 : decode cX9_addVariable 51 = .ok (.getfield 69, 3) := by decide +kernel
theorem dX9_addVariable_54 : decode cX9_addVariable 54 = .ok (.iconst 1, 1) := by decide +kernel
theorem dX9_addVariable_55 : decode cX9_addVariable 55 = .ok (.isub, 1) := by decide +kernel
theorem dX9_addVariable_56 : decode cX9_addVariable 56 = .ok (.ireturn, 1) := by decide +kernel
theorem dX9_setDomain_0 : decode cX9_setDomain 0 = .ok (.aload_n 0, 1) := by decide +kernel
theorem dX9_setDomain_1 : decode cX9_setDomain 1 = .ok (.iload_n 1, 1) := by decide +kernel
theorem dX9_setDomain_2 : decode cX9_setDomain 2 = .ok (.invokevirtual 98, 3) := by decide +kernel
theorem dX9_setDomain_5 : decode cX9_setDomain 5 = .ok (.iload_n 2, 1) := by decide +kernel
theorem dX9_setDomain_6 : decode cX9_setDomain 6 = .ok (.invokestatic 84, 3) := by decide +kernel
theorem dX9_setDomain_9 : decode cX9_setDomain 9 = .ok (.aload_n 0, 1) := by decide +kernel
theorem dX9_setDomain_10 : decode cX9_setDomain 10 = .ok (.getfield 22, 3) := by decide +kernel
theorem dX9_setDomain_13 : decode cX9_setDomain 13 = .ok (.aload_n 0, 1) := by decide +kernel
theorem dX9_setDomain_14 : decode cX9_setDomain 14 = .ok (.getfield 12, 3) := by decide +kernel
theorem dX9_setDomain_17 : decode cX9_setDomain 17 = .ok (.invokevirtual 91, 3) := by decide +kernel
theorem dX9_setDomain_20 : decode cX9_setDomain 20 = .ok (.aload_n 0, 1) := by decide +kernel
theorem dX9_setDomain_21 : decode cX9_setDomain 21 = .ok (.getfield 12, 3) := by decide +kernel
theorem dX9_setDomain_24 : decode cX9_setDomain 24 = .ok (.getfield 101, 3) := by decide +kernel
theorem dX9_setDomain_27 : decode cX9_setDomain 27 = .ok (.iload_n 1, 1) := by decide +kernel
theorem dX9_setDomain_28 : decode cX9_setDomain 28 = .ok (.iaload, 1) := by decide +kernel
theorem dX9_setDomain_29 : decode cX9_setDomain 29 = .ok (.istore_n 3, 1) := by decide +kernel
theorem dX9_setDomain_30 : decode cX9_setDomain 30 = .ok (.aload_n 0, 1) := by decide +kernel
theorem dX9_setDomain_31 : decode cX9_setDomain 31 = .ok (.getfield 12, 3) := by decide +kernel
theorem dX9_setDomain_34 : decode cX9_setDomain 34 = .ok (.getfield 101, 3) := by decide +kernel
theorem dX9_setDomain_37 : decode cX9_setDomain 37 = .ok (.iload_n 1, 1) := by decide +kernel
theorem dX9_setDomain_38 : decode cX9_setDomain 38 = .ok (.iload_n 2, 1) := by decide +kernel
theorem dX9_setDomain_39 : decode cX9_setDomain 39 = .ok (.iastore, 1) := by decide +kernel
theorem dX9_setDomain_40 : decode cX9_setDomain 40 = .ok (.aload_n 0, 1) := by decide +kernel
theorem dX9_setDomain_41 : decode cX9_setDomain 41 = .ok (.getfield 12, 3) := by decide +kernel
theorem dX9_setDomain_44 : decode cX9_setDomain 44 = .ok (.getfield 105, 3) := by decide +kernel
theorem dX9_setDomain_47 : decode cX9_setDomain 47 = .ok (.iload_n 1, 1) := by decide +kernel
theorem dX9_setDomain_48 : decode cX9_setDomain 48 = .ok (.aload_n 0, 1) := by decide +kernel
theorem dX9_setDomain_49 : decode cX9_setDomain 49 = .ok (.getfield 12, 3) := by decide +kernel
theorem dX9_setDomain_52 : decode cX9_setDomain 52 = .ok (.getfield 105, 3) := by decide +kernel
theorem dX9_setDomain_55 : decode cX9_setDomain 55 = .ok (.iload_n 1, 1) := by decide +kernel
theorem dX9_setDomain_56 : decode cX9_setDomain 56 = .ok (.iaload, 1) := by decide +kernel
theorem dX9_setDomain_57 : decode cX9_setDomain 57 = .ok (.iload_n 2, 1) := by decide +kernel
theorem dX9_setDomain_58 : decode cX9_setDomain 58 = .ok (.iconst 1, 1) := by decide +kernel
theorem dX9_setDomain_59 : decode cX9_setDomain 59 = .ok (.isub, 1) := by decide +kernel
theorem dX9_setDomain_60 : decode cX9_setDomain 60 = .ok (.invokestatic 108, 3) := by decide +kernel
theorem dX9_setDomain_63 : decode cX9_setDomain 63 = .ok (.iastore, 1) := by decide +kernel
theorem dX9_setDomain_64 : decode cX9_setDomain 64 = .ok (.aload_n 0, 1) := by decide +kernel
theorem dX9_setDomain_65 : decode cX9_setDomain 65 = .ok (.invokevirtual 81, 3) := by decide +kernel
theorem dX9_setDomain_68 : decode cX9_setDomain 68 = .ok (.iload_n 3, 1) := by decide +kernel
theorem dX9_setDomain_69 : decode cX9_setDomain 69 = .ok (.ireturn, 1) := by decide +kernel
theorem dX9_addConstraint_0 : decode cX9_addConstraint 0 = .ok (.iload_n 1, 1) := by decide +kernel
theorem dX9_addConstraint_1 : decode cX9_addConstraint 1 = .ok (.iconst 0, 1) := by decide +kernel
theorem dX9_addConstraint_2 : decode cX9_addConstraint 2 = .ok (.iconst 5, 1) := by decide +kernel
theorem dX9_addConstraint_3 : decode cX9_addConstraint 3 = .ok (.invokestatic 114, 3) := by decide +kernel
theorem dX9_addConstraint_6 : decode cX9_addConstraint 6 = .ok (.iload_n 3, 1) := by decide +kernel
theorem dX9_addConstraint_7 : decode cX9_addConstraint 7 = .ok (.bipush (-50), 2) := by decide +kernel
theorem dX9_addConstraint_9 : decode cX9_addConstraint 9 = .ok (.bipush 50, 2) := by decide +kernel
theorem dX9_addConstraint_11 : decode cX9_addConstraint 11 = .ok (.invokestatic 114, 3) := by decide +kernel
theorem dX9_addConstraint_14 : decode cX9_addConstraint 14 = .ok (.iload 4, 2) := by decide +kernel
theorem dX9_addConstraint_16 : decode cX9_addConstraint 16 = .ok (.iconst 1, 1) := by decide +kernel
theorem dX9_addConstraint_17 : decode cX9_addConstraint 17 = .ok (.bipush 9, 2) := by decide +kernel
theorem dX9_addConstraint_19 : decode cX9_addConstraint 19 = .ok (.invokestatic 114, 3) := by decide +kernel
theorem dX9_addConstraint_22 : decode cX9_addConstraint 22 = .ok (.iload_n 2, 1) := by decide +kernel
theorem dX9_addConstraint_23 : decode cX9_addConstraint 23 = .ok (.invokestatic 118, 3) := by decide +kernel
theorem dX9_addConstraint_26 : decode cX9_addConstraint 26 = .ok (.iconst 2, 1) := by decide +kernel
theorem dX9_addConstraint_27 : decode cX9_addConstraint 27 = .ok (.if_icmp .lt 17, 3) := by decide +kernel
theorem dX9_addConstraint_30 : decode cX9_addConstraint 30 = .ok (.iload_n 2, 1) := by decide +kernel
theorem dX9_addConstraint_31 : decode cX9_addConstraint 31 = .ok (.aload_n 0, 1) := by decide +kernel
theorem dX9_addConstraint_32 : decode cX9_addConstraint 32 = .ok (.getfield 12, 3) := by decide +kernel
theorem dX9_addConstraint_35 : decode cX9_addConstraint 35 = .ok (.getfield 69, 3) := by decide +kernel
theorem dX9_addConstraint_38 : decode cX9_addConstraint 38 = .ok (.invokestatic 124, 3) := by decide +kernel
theorem dX9_addConstraint_41 : decode cX9_addConstraint 41 = .ok (.ifCond .ne 11, 3) := by decide +kernel
theorem dX9_addConstraint_44 : decode cX9_addConstraint 44 = .ok (.new 128, 3) := by decide +kernel
theorem dX9_addConstraint_47 : decode cX9_addConstraint 47 = .ok (.dup, 1) := by decide +kernel
theorem dX9_addConstraint_48 : decode cX9_addConstraint 48 = .ok (.invokespecial 130, 3) := by decide +kernel
theorem dX9_addConstraint_51 : decode cX9_addConstraint 51 = .ok (.athrow, 1) := by decide +kernel
theorem dX9_addConstraint_52 : decode cX9_addConstraint 52 = .ok (.aload_n 0, 1) := by decide +kernel
theorem dX9_addConstraint_53 : decode cX9_addConstraint 53 = .ok (.getfield 12, 3) := by decide +kernel
theorem dX9_addConstraint_56 : decode cX9_addConstraint 56 = .ok (.getfield 131, 3) := by decide +kernel
theorem dX9_addConstraint_59 : decode cX9_addConstraint 59 = .ok (.bipush 20, 2) := by decide +kernel
theorem dX9_addConstraint_61 : decode cX9_addConstraint 61 = .ok (.if_icmp .lt 11, 3) := by decide +kernel
theorem dX9_addConstraint_64 : decode cX9_addConstraint 64 = .ok (.new 88, 3) := by decide +kernel
theorem dX9_addConstraint_67 : decode cX9_addConstraint 67 = .ok (.dup, 1) := by decide +kernel
theorem dX9_addConstraint_68 : decode cX9_addConstraint 68 = .ok (.invokespecial 90, 3) := by decide +kernel
theorem dX9_addConstraint_71 : decode cX9_addConstraint 71 = .ok (.athrow, 1) := by decide +kernel
theorem dX9_addConstraint_72 : decode cX9_addConstraint 72 = .ok (.aload_n 0, 1) := by decide +kernel
theorem dX9_addConstraint_73 : decode cX9_addConstraint 73 = .ok (.getfield 22, 3) := by decide +kernel
theorem dX9_addConstraint_76 : decode cX9_addConstraint 76 = .ok (.aload_n 0, 1) := by decide +kernel
theorem dX9_addConstraint_77 : decode cX9_addConstraint 77 = .ok (.getfield 12, 3) := by decide +kernel
theorem dX9_addConstraint_80 : decode cX9_addConstraint 80 = .ok (.invokevirtual 91, 3) := by decide +kernel
theorem dX9_addConstraint_83 : decode cX9_addConstraint 83 = .ok (.aload_n 0, 1) := by decide +kernel
theorem dX9_addConstraint_84 : decode cX9_addConstraint 84 = .ok (.getfield 12, 3) := by decide +kernel
theorem dX9_addConstraint_87 : decode cX9_addConstraint 87 = .ok (.iload_n 1, 1) := by decide +kernel
theorem dX9_addConstraint_88 : decode cX9_addConstraint 88 = .ok (.iload_n 2, 1) := by decide +kernel
theorem dX9_addConstraint_89 : decode cX9_addConstraint 89 = .ok (.iload_n 3, 1) := by decide +kernel
theorem dX9_addConstraint_90 : decode cX9_addConstraint 90 = .ok (.iload 4, 2) := by decide +kernel
theorem dX9_addConstraint_92 : decode cX9_addConstraint 92 = .ok (.invokevirtual 134, 3) := by decide +kernel
theorem dX9_addConstraint_95 : decode cX9_addConstraint 95 = .ok (.aload_n 0, 1) := by decide +kernel
theorem dX9_addConstraint_96 : decode cX9_addConstraint 96 = .ok (.invokevirtual 81, 3) := by decide +kernel
theorem dX9_addConstraint_99 : decode cX9_addConstraint 99 = .ok (.aload_n 0, 1) := by decide +kernel
theorem dX9_addConstraint_100 : decode cX9_addConstraint 100 = .ok (.getfield 12, 3) := by decide +kernel
theorem dX9_addConstraint_103 : decode cX9_addConstraint 103 = .ok (.getfield 131, 3) := by decide +kernel
theorem dX9_addConstraint_106 : decode cX9_addConstraint 106 = .ok (.iconst 1, 1) := by decide +kernel
theorem dX9_addConstraint_107 : decode cX9_addConstraint 107 = .ok (.isub, 1) := by decide +kernel
theorem dX9_addConstraint_108 : decode cX9_addConstraint 108 = .ok (.ireturn, 1) := by decide +kernel
theorem dX9_removeConstraint_0 : decode cX9_removeConstraint 0 = .ok (.aload_n 0, 1) := by decide +kernel
theorem dX9_removeConstraint_1 : decode cX9_removeConstraint 1 = .ok (.iload_n 1, 1) := by decide +kernel
theorem dX9_removeConstraint_2 : decode cX9_removeConstraint 2 = .ok (.invokevirtual 138, 3) := by decide +kernel
theorem dX9_removeConstraint_5 : decode cX9_removeConstraint 5 = .ok (.aload_n 0, 1) := by decide +kernel
theorem dX9_removeConstraint_6 : decode cX9_removeConstraint 6 = .ok (.getfield 22, 3) := by decide +kernel
theorem dX9_removeConstraint_9 : decode cX9_removeConstraint 9 = .ok (.aload_n 0, 1) := by decide +kernel
theorem dX9_removeConstraint_10 : decode cX9_removeConstraint 10 = .ok (.getfield 12, 3) := by decide +kernel
theorem dX9_removeConstraint_13 : decode cX9_removeConstraint 13 = .ok (.invokevirtual 91, 3) := by decide +kernel
theorem dX9_removeConstraint_16 : decode cX9_removeConstraint 16 = .ok (.aload_n 0, 1) := by decide +kernel
theorem dX9_removeConstraint_17 : decode cX9_removeConstraint 17 = .ok (.getfield 12, 3) := by decide +kernel
theorem dX9_removeConstraint_20 : decode cX9_removeConstraint 20 = .ok (.iload_n 1, 1) := by decide +kernel
theorem dX9_removeConstraint_21 : decode cX9_removeConstraint 21 = .ok (.invokevirtual 141, 3) := by decide +kernel
theorem dX9_removeConstraint_24 : decode cX9_removeConstraint 24 = .ok (.aload_n 0, 1) := by decide +kernel
theorem dX9_removeConstraint_25 : decode cX9_removeConstraint 25 = .ok (.invokevirtual 81, 3) := by decide +kernel
theorem dX9_removeConstraint_28 : decode cX9_removeConstraint 28 = .ok (.aload_n 0, 1) := by decide +kernel
theorem dX9_removeConstraint_29 : decode cX9_removeConstraint 29 = .ok (.getfield 12, 3) := by decide +kernel
theorem dX9_removeConstraint_32 : decode cX9_removeConstraint 32 = .ok (.getfield 131, 3) := by decide +kernel
theorem dX9_removeConstraint_35 : decode cX9_removeConstraint 35 = .ok (.ireturn, 1) := by decide +kernel
theorem dX9_setWeight_0 : decode cX9_setWeight 0 = .ok (.aload_n 0, 1) := by decide +kernel
theorem dX9_setWeight_1 : decode cX9_setWeight 1 = .ok (.iload_n 1, 1) := by decide +kernel
theorem dX9_setWeight_2 : decode cX9_setWeight 2 = .ok (.invokevirtual 138, 3) := by decide +kernel
theorem dX9_setWeight_5 : decode cX9_setWeight 5 = .ok (.iload_n 2, 1) := by decide +kernel
theorem dX9_setWeight_6 : decode cX9_setWeight 6 = .ok (.iconst 1, 1) := by decide +kernel
theorem dX9_setWeight_7 : decode cX9_setWeight 7 = .ok (.bipush 9, 2) := by decide +kernel
theorem dX9_setWeight_9 : decode cX9_setWeight 9 = .ok (.invokestatic 114, 3) := by decide +kernel
theorem dX9_setWeight_12 : decode cX9_setWeight 12 = .ok (.aload_n 0, 1) := by decide +kernel
theorem dX9_setWeight_13 : decode cX9_setWeight 13 = .ok (.getfield 22, 3) := by decide +kernel
theorem dX9_setWeight_16 : decode cX9_setWeight 16 = .ok (.aload_n 0, 1) := by decide +kernel
theorem dX9_setWeight_17 : decode cX9_setWeight 17 = .ok (.getfield 12, 3) := by decide +kernel
theorem dX9_setWeight_20 : decode cX9_setWeight 20 = .ok (.invokevirtual 91, 3) := by decide +kernel
theorem dX9_setWeight_23 : decode cX9_setWeight 23 = .ok (.aload_n 0, 1) := by decide +kernel
theorem dX9_setWeight_24 : decode cX9_setWeight 24 = .ok (.getfield 12, 3) := by decide +kernel
theorem dX9_setWeight_27 : decode cX9_setWeight 27 = .ok (.getfield 144, 3) := by decide +kernel
theorem dX9_setWeight_30 : decode cX9_setWeight 30 = .ok (.iload_n 1, 1) := by decide +kernel
theorem dX9_setWeight_31 : decode cX9_setWeight 31 = .ok (.iaload, 1) := by decide +kernel
theorem dX9_setWeight_32 : decode cX9_setWeight 32 = .ok (.istore_n 3, 1) := by decide +kernel
theorem dX9_setWeight_33 : decode cX9_setWeight 33 = .ok (.aload_n 0, 1) := by decide +kernel
theorem dX9_setWeight_34 : decode cX9_setWeight 34 = .ok (.getfield 12, 3) := by decide +kernel
theorem dX9_setWeight_37 : decode cX9_setWeight 37 = .ok (.getfield 144, 3) := by decide +kernel
theorem dX9_setWeight_40 : decode cX9_setWeight 40 = .ok (.iload_n 1, 1) := by decide +kernel
theorem dX9_setWeight_41 : decode cX9_setWeight 41 = .ok (.iload_n 2, 1) := by decide +kernel
theorem dX9_setWeight_42 : decode cX9_setWeight 42 = .ok (.iastore, 1) := by decide +kernel
theorem dX9_setWeight_43 : decode cX9_setWeight 43 = .ok (.aload_n 0, 1) := by decide +kernel
theorem dX9_setWeight_44 : decode cX9_setWeight 44 = .ok (.invokevirtual 81, 3) := by decide +kernel
theorem dX9_setWeight_47 : decode cX9_setWeight 47 = .ok (.iload_n 3, 1) := by decide +kernel
theorem dX9_setWeight_48 : decode cX9_setWeight 48 = .ok (.ireturn, 1) := by decide +kernel
theorem dX9_setValue_0 : decode cX9_setValue 0 = .ok (.aload_n 0, 1) := by decide +kernel
theorem dX9_setValue_1 : decode cX9_setValue 1 = .ok (.iload_n 1, 1) := by decide +kernel
theorem dX9_setValue_2 : decode cX9_setValue 2 = .ok (.invokevirtual 98, 3) := by decide +kernel
theorem dX9_setValue_5 : decode cX9_setValue 5 = .ok (.iload_n 2, 1) := by decide +kernel
theorem dX9_setValue_6 : decode cX9_setValue 6 = .ok (.iconst 0, 1) := by decide +kernel
theorem dX9_setValue_7 : decode cX9_setValue 7 = .ok (.aload_n 0, 1) := by decide +kernel
theorem dX9_setValue_8 : decode cX9_setValue 8 = .ok (.getfield 12, 3) := by decide +kernel
theorem dX9_setValue_11 : decode cX9_setValue 11 = .ok (.getfield 101, 3) := by decide +kernel
theorem dX9_setValue_14 : decode cX9_setValue 14 = .ok (.iload_n 1, 1) := by decide +kernel
theorem dX9_setValue_15 : decode cX9_setValue 15 = .ok (.iaload, 1) := by decide +kernel
theorem dX9_setValue_16 : decode cX9_setValue 16 = .ok (.iconst 1, 1) := by decide +kernel
theorem dX9_setValue_17 : decode cX9_setValue 17 = .ok (.isub, 1) := by decide +kernel
theorem dX9_setValue_18 : decode cX9_setValue 18 = .ok (.invokestatic 114, 3) := by decide +kernel
theorem dX9_setValue_21 : decode cX9_setValue 21 = .ok (.aload_n 0, 1) := by decide +kernel
theorem dX9_setValue_22 : decode cX9_setValue 22 = .ok (.getfield 12, 3) := by decide +kernel
theorem dX9_setValue_25 : decode cX9_setValue 25 = .ok (.getfield 105, 3) := by decide +kernel
theorem dX9_setValue_28 : decode cX9_setValue 28 = .ok (.iload_n 1, 1) := by decide +kernel
theorem dX9_setValue_29 : decode cX9_setValue 29 = .ok (.iaload, 1) := by decide +kernel
theorem dX9_setValue_30 : decode cX9_setValue 30 = .ok (.istore_n 3, 1) := by decide +kernel
theorem dX9_setValue_31 : decode cX9_setValue 31 = .ok (.aload_n 0, 1) := by decide +kernel
theorem dX9_setValue_32 : decode cX9_setValue 32 = .ok (.getfield 12, 3) := by decide +kernel
theorem dX9_setValue_35 : decode cX9_setValue 35 = .ok (.getfield 105, 3) := by decide +kernel
theorem dX9_setValue_38 : decode cX9_setValue 38 = .ok (.iload_n 1, 1) := by decide +kernel
theorem dX9_setValue_39 : decode cX9_setValue 39 = .ok (.iload_n 2, 1) := by decide +kernel
theorem dX9_setValue_40 : decode cX9_setValue 40 = .ok (.iastore, 1) := by decide +kernel
theorem dX9_setValue_41 : decode cX9_setValue 41 = .ok (.aload_n 0, 1) := by decide +kernel
theorem dX9_setValue_42 : decode cX9_setValue 42 = .ok (.invokevirtual 81, 3) := by decide +kernel
theorem dX9_setValue_45 : decode cX9_setValue 45 = .ok (.iload_n 3, 1) := by decide +kernel
theorem dX9_setValue_46 : decode cX9_setValue 46 = .ok (.ireturn, 1) := by decide +kernel
theorem dX9_count_0 : decode cX9_count 0 = .ok (.iload_n 1, 1) := by decide +kernel
theorem dX9_count_1 : decode cX9_count 1 = .ok (.tableswitch 63 0 3 #[31, 39, 47, 55], 31) := by decide +kernel
theorem dX9_count_32 : decode cX9_count 32 = .ok (.aload_n 0, 1) := by decide +kernel
theorem dX9_count_33 : decode cX9_count 33 = .ok (.getfield 12, 3) := by decide +kernel
theorem dX9_count_36 : decode cX9_count 36 = .ok (.getfield 69, 3) := by decide +kernel
theorem dX9_count_39 : decode cX9_count 39 = .ok (.ireturn, 1) := by decide +kernel
theorem dX9_count_40 : decode cX9_count 40 = .ok (.aload_n 0, 1) := by decide +kernel
theorem dX9_count_41 : decode cX9_count 41 = .ok (.getfield 12, 3) := by decide +kernel
theorem dX9_count_44 : decode cX9_count 44 = .ok (.getfield 131, 3) := by decide +kernel
theorem dX9_count_47 : decode cX9_count 47 = .ok (.ireturn, 1) := by decide +kernel
theorem dX9_count_48 : decode cX9_count 48 = .ok (.aload_n 0, 1) := by decide +kernel
theorem dX9_count_49 : decode cX9_count 49 = .ok (.getfield 12, 3) := by decide +kernel
theorem dX9_count_52 : decode cX9_count 52 = .ok (.invokevirtual 147, 3) := by decide +kernel
theorem dX9_count_55 : decode cX9_count 55 = .ok (.ireturn, 1) := by decide +kernel
theorem dX9_count_56 : decode cX9_count 56 = .ok (.aload_n 0, 1) := by decide +kernel
theorem dX9_count_57 : decode cX9_count 57 = .ok (.getfield 12, 3) := by decide +kernel
theorem dX9_count_60 : decode cX9_count 60 = .ok (.invokevirtual 151, 3) := by decide +kernel
theorem dX9_count_63 : decode cX9_count 63 = .ok (.ireturn, 1) := by decide +kernel
theorem dX9_count_64 : decode cX9_count 64 = .ok (.new 128, 3) := by decide +kernel
theorem dX9_count_67 : decode cX9_count 67 = .ok (.dup, 1) := by decide +kernel
theorem dX9_count_68 : decode cX9_count 68 = .ok (.invokespecial 130, 3) := by decide +kernel
theorem dX9_count_71 : decode cX9_count 71 = .ok (.athrow, 1) := by decide +kernel
theorem dX9_constraint_0 : decode cX9_constraint 0 = .ok (.aload_n 0, 1) := by decide +kernel
theorem dX9_constraint_1 : decode cX9_constraint 1 = .ok (.iload_n 1, 1) := by decide +kernel
theorem dX9_constraint_2 : decode cX9_constraint 2 = .ok (.invokevirtual 138, 3) := by decide +kernel
theorem dX9_constraint_5 : decode cX9_constraint 5 = .ok (.iload_n 2, 1) := by decide +kernel
theorem dX9_constraint_6 : decode cX9_constraint 6 = .ok (.tableswitch 70 0 3 #[30, 40, 50, 60], 30) := by decide +kernel
theorem dX9_constraint_36 : decode cX9_constraint 36 = .ok (.aload_n 0, 1) := by decide +kernel
theorem dX9_constraint_37 : decode cX9_constraint 37 = .ok (.getfield 12, 3) := by decide +kernel
theorem dX9_constraint_40 : decode cX9_constraint 40 = .ok (.getfield 154, 3) := by decide +kernel
theorem dX9_constraint_43 : decode cX9_constraint 43 = .ok (.iload_n 1, 1) := by decide +kernel
theorem dX9_constraint_44 : decode cX9_constraint 44 = .ok (.iaload, 1) := by decide +kernel
theorem dX9_constraint_45 : decode cX9_constraint 45 = .ok (.ireturn, 1) := by decide +kernel
theorem dX9_constraint_46 : decode cX9_constraint 46 = .ok (.aload_n 0, 1) := by decide +kernel
theorem dX9_constraint_47 : decode cX9_constraint 47 = .ok (.getfield 12, 3) := by decide +kernel
theorem dX9_constraint_50 : decode cX9_constraint 50 = .ok (.getfield 157, 3) := by decide +kernel
theorem dX9_constraint_53 : decode cX9_constraint 53 = .ok (.iload_n 1, 1) := by decide +kernel
theorem dX9_constraint_54 : decode cX9_constraint 54 = .ok (.iaload, 1) := by decide +kernel
theorem dX9_constraint_55 : decode cX9_constraint 55 = .ok (.ireturn, 1) := by decide +kernel
theorem dX9_constraint_56 : decode cX9_constraint 56 = .ok (.aload_n 0, 1) := by decide +kernel
theorem dX9_constraint_57 : decode cX9_constraint 57 = .ok (.getfield 12, 3) := by decide +kernel
theorem dX9_constraint_60 : decode cX9_constraint 60 = .ok (.getfield 160, 3) := by decide +kernel
theorem dX9_constraint_63 : decode cX9_constraint 63 = .ok (.iload_n 1, 1) := by decide +kernel
theorem dX9_constraint_64 : decode cX9_constraint 64 = .ok (.iaload, 1) := by decide +kernel
theorem dX9_constraint_65 : decode cX9_constraint 65 = .ok (.ireturn, 1) := by decide +kernel
theorem dX9_constraint_66 : decode cX9_constraint 66 = .ok (.aload_n 0, 1) := by decide +kernel
theorem dX9_constraint_67 : decode cX9_constraint 67 = .ok (.getfield 12, 3) := by decide +kernel
theorem dX9_constraint_70 : decode cX9_constraint 70 = .ok (.getfield 144, 3) := by decide +kernel
theorem dX9_constraint_73 : decode cX9_constraint 73 = .ok (.iload_n 1, 1) := by decide +kernel
theorem dX9_constraint_74 : decode cX9_constraint 74 = .ok (.iaload, 1) := by decide +kernel
theorem dX9_constraint_75 : decode cX9_constraint 75 = .ok (.ireturn, 1) := by decide +kernel
theorem dX9_constraint_76 : decode cX9_constraint 76 = .ok (.new 128, 3) := by decide +kernel
theorem dX9_constraint_79 : decode cX9_constraint 79 = .ok (.dup, 1) := by decide +kernel
theorem dX9_constraint_80 : decode cX9_constraint 80 = .ok (.invokespecial 130, 3) := by decide +kernel
theorem dX9_constraint_83 : decode cX9_constraint 83 = .ok (.athrow, 1) := by decide +kernel
theorem dX9_variable_0 : decode cX9_variable 0 = .ok (.aload_n 0, 1) := by decide +kernel
theorem dX9_variable_1 : decode cX9_variable 1 = .ok (.iload_n 1, 1) := by decide +kernel
theorem dX9_variable_2 : decode cX9_variable 2 = .ok (.invokevirtual 98, 3) := by decide +kernel
theorem dX9_variable_5 : decode cX9_variable 5 = .ok (.iload_n 2, 1) := by decide +kernel
theorem dX9_variable_6 : decode cX9_variable 6 = .ok (.tableswitch 82 0 4 #[34, 44, 54, 64, 73], 34) := by decide +kernel
theorem dX9_variable_40 : decode cX9_variable 40 = .ok (.aload_n 0, 1) := by decide +kernel
theorem dX9_variable_41 : decode cX9_variable 41 = .ok (.getfield 12, 3) := by decide +kernel
theorem dX9_variable_44 : decode cX9_variable 44 = .ok (.getfield 101, 3) := by decide +kernel
theorem dX9_variable_47 : decode cX9_variable 47 = .ok (.iload_n 1, 1) := by decide +kernel
theorem dX9_variable_48 : decode cX9_variable 48 = .ok (.iaload, 1) := by decide +kernel
theorem dX9_variable_49 : decode cX9_variable 49 = .ok (.ireturn, 1) := by decide +kernel
theorem dX9_variable_50 : decode cX9_variable 50 = .ok (.aload_n 0, 1) := by decide +kernel
theorem dX9_variable_51 : decode cX9_variable 51 = .ok (.getfield 12, 3) := by decide +kernel
theorem dX9_variable_54 : decode cX9_variable 54 = .ok (.getfield 105, 3) := by decide +kernel
theorem dX9_variable_57 : decode cX9_variable 57 = .ok (.iload_n 1, 1) := by decide +kernel
theorem dX9_variable_58 : decode cX9_variable 58 = .ok (.iaload, 1) := by decide +kernel
theorem dX9_variable_59 : decode cX9_variable 59 = .ok (.ireturn, 1) := by decide +kernel
theorem dX9_variable_60 : decode cX9_variable 60 = .ok (.aload_n 0, 1) := by decide +kernel
theorem dX9_variable_61 : decode cX9_variable 61 = .ok (.getfield 36, 3) := by decide +kernel
theorem dX9_variable_64 : decode cX9_variable 64 = .ok (.getfield 163, 3) := by decide +kernel
theorem dX9_variable_67 : decode cX9_variable 67 = .ok (.iload_n 1, 1) := by decide +kernel
theorem dX9_variable_68 : decode cX9_variable 68 = .ok (.iaload, 1) := by decide +kernel
theorem dX9_variable_69 : decode cX9_variable 69 = .ok (.ireturn, 1) := by decide +kernel
theorem dX9_variable_70 : decode cX9_variable 70 = .ok (.aload_n 0, 1) := by decide +kernel
theorem dX9_variable_71 : decode cX9_variable 71 = .ok (.getfield 12, 3) := by decide +kernel
theorem dX9_variable_74 : decode cX9_variable 74 = .ok (.iload_n 1, 1) := by decide +kernel
theorem dX9_variable_75 : decode cX9_variable 75 = .ok (.invokevirtual 166, 3) := by decide +kernel
theorem dX9_variable_78 : decode cX9_variable 78 = .ok (.ireturn, 1) := by decide +kernel
theorem dX9_variable_79 : decode cX9_variable 79 = .ok (.aload_n 0, 1) := by decide +kernel
theorem dX9_variable_80 : decode cX9_variable 80 = .ok (.getfield 12, 3) := by decide +kernel
theorem dX9_variable_83 : decode cX9_variable 83 = .ok (.iload_n 1, 1) := by decide +kernel
theorem dX9_variable_84 : decode cX9_variable 84 = .ok (.invokevirtual 169, 3) := by decide +kernel
theorem dX9_variable_87 : decode cX9_variable 87 = .ok (.ireturn, 1) := by decide +kernel
theorem dX9_variable_88 : decode cX9_variable 88 = .ok (.new 128, 3) := by decide +kernel
theorem dX9_variable_91 : decode cX9_variable 91 = .ok (.dup, 1) := by decide +kernel
theorem dX9_variable_92 : decode cX9_variable 92 = .ok (.invokespecial 130, 3) := by decide +kernel
theorem dX9_variable_95 : decode cX9_variable 95 = .ok (.athrow, 1) := by decide +kernel
theorem dX9_cost_0 : decode cX9_cost 0 = .ok (.aload_n 0, 1) := by decide +kernel
theorem dX9_cost_1 : decode cX9_cost 1 = .ok (.getfield 12, 3) := by decide +kernel
theorem dX9_cost_4 : decode cX9_cost 4 = .ok (.invokevirtual 172, 3) := by decide +kernel
theorem dX9_cost_7 : decode cX9_cost 7 = .ok (.ireturn, 1) := by decide +kernel
theorem dX9_bestCost_0 : decode cX9_bestCost 0 = .ok (.aload_n 0, 1) := by decide +kernel
theorem dX9_bestCost_1 : decode cX9_bestCost 1 = .ok (.getfield 36, 3) := by decide +kernel
theorem dX9_bestCost_4 : decode cX9_bestCost 4 = .ok (.getfield 175, 3) := by decide +kernel
theorem dX9_bestCost_7 : decode cX9_bestCost 7 = .ok (.ireturn, 1) := by decide +kernel
theorem dX9_violation_0 : decode cX9_violation 0 = .ok (.aload_n 0, 1) := by decide +kernel
theorem dX9_violation_1 : decode cX9_violation 1 = .ok (.iload_n 1, 1) := by decide +kernel
theorem dX9_violation_2 : decode cX9_violation 2 = .ok (.invokevirtual 138, 3) := by decide +kernel
theorem dX9_violation_5 : decode cX9_violation 5 = .ok (.aload_n 0, 1) := by decide +kernel
theorem dX9_violation_6 : decode cX9_violation 6 = .ok (.getfield 12, 3) := by decide +kernel
theorem dX9_violation_9 : decode cX9_violation 9 = .ok (.iload_n 1, 1) := by decide +kernel
theorem dX9_violation_10 : decode cX9_violation 10 = .ok (.iload_n 2, 1) := by decide +kernel
theorem dX9_violation_11 : decode cX9_violation 11 = .ok (.ifCond .eq 13, 3) := by decide +kernel
theorem dX9_violation_14 : decode cX9_violation 14 = .ok (.aload_n 0, 1) := by decide +kernel
theorem dX9_violation_15 : decode cX9_violation 15 = .ok (.getfield 36, 3) := by decide +kernel
theorem dX9_violation_18 : decode cX9_violation 18 = .ok (.getfield 163, 3) := by decide +kernel
theorem dX9_violation_21 : decode cX9_violation 21 = .ok (.goto 10, 3) := by decide +kernel
theorem dX9_violation_24 : decode cX9_violation 24 = .ok (.aload_n 0, 1) := by decide +kernel
theorem dX9_violation_25 : decode cX9_violation 25 = .ok (.getfield 12, 3) := by decide +kernel
theorem dX9_violation_28 : decode cX9_violation 28 = .ok (.getfield 105, 3) := by decide +kernel
theorem dX9_violation_31 : decode cX9_violation 31 = .ok (.invokevirtual 178, 3) := by decide +kernel
theorem dX9_violation_34 : decode cX9_violation 34 = .ok (.ireturn, 1) := by decide +kernel
theorem dX9_mostBlamed_0 : decode cX9_mostBlamed 0 = .ok (.iconst (-1), 1) := by decide +kernel
theorem dX9_mostBlamed_1 : decode cX9_mostBlamed 1 = .ok (.istore_n 1, 1) := by decide +kernel
theorem dX9_mostBlamed_2 : decode cX9_mostBlamed 2 = .ok (.iconst 0, 1) := by decide +kernel
theorem dX9_mostBlamed_3 : decode cX9_mostBlamed 3 = .ok (.istore_n 2, 1) := by decide +kernel
theorem dX9_mostBlamed_4 : decode cX9_mostBlamed 4 = .ok (.iconst 0, 1) := by decide +kernel
theorem dX9_mostBlamed_5 : decode cX9_mostBlamed 5 = .ok (.istore_n 3, 1) := by decide +kernel
theorem dX9_mostBlamed_6 : decode cX9_mostBlamed 6 = .ok (.iload_n 3, 1) := by decide +kernel
theorem dX9_mostBlamed_7 : decode cX9_mostBlamed 7 = .ok (.aload_n 0, 1) := by decide +kernel
theorem dX9_mostBlamed_8 : decode cX9_mostBlamed 8 = .ok (.getfield 12, 3) := by decide +kernel
theorem dX9_mostBlamed_11 : decode cX9_mostBlamed 11 = .ok (.getfield 69, 3) := by decide +kernel
theorem dX9_mostBlamed_14 : decode cX9_mostBlamed 14 = .ok (.if_icmp .ge 30, 3) := by decide +kernel
theorem dX9_mostBlamed_17 : decode cX9_mostBlamed 17 = .ok (.aload_n 0, 1) := by decide +kernel
theorem dX9_mostBlamed_18 : decode cX9_mostBlamed 18 = .ok (.getfield 12, 3) := by decide +kernel
theorem dX9_mostBlamed_21 : decode cX9_mostBlamed 21 = .ok (.iload_n 3, 1) := by decide +kernel
theorem dX9_mostBlamed_22 : decode cX9_mostBlamed 22 = .ok (.invokevirtual 166, 3) := by decide +kernel
theorem dX9_mostBlamed_25 : decode cX9_mostBlamed 25 = .ok (.istore 4, 2) := by decide +kernel
theorem dX9_mostBlamed_27 : decode cX9_mostBlamed 27 = .ok (.iload 4, 2) := by decide +kernel
theorem dX9_mostBlamed_29 : decode cX9_mostBlamed 29 = .ok (.iload_n 2, 1) := by decide +kernel
theorem dX9_mostBlamed_30 : decode cX9_mostBlamed 30 = .ok (.if_icmp .le 8, 3) := by decide +kernel
theorem dX9_mostBlamed_33 : decode cX9_mostBlamed 33 = .ok (.iload_n 3, 1) := by decide +kernel
theorem dX9_mostBlamed_34 : decode cX9_mostBlamed 34 = .ok (.istore_n 1, 1) := by decide +kernel
theorem dX9_mostBlamed_35 : decode cX9_mostBlamed 35 = .ok (.iload 4, 2) := by decide +kernel
theorem dX9_mostBlamed_37 : decode cX9_mostBlamed 37 = .ok (.istore_n 2, 1) := by decide +kernel
theorem dX9_mostBlamed_38 : decode cX9_mostBlamed 38 = .ok (.iinc 3 1, 3) := by decide +kernel
theorem dX9_mostBlamed_41 : decode cX9_mostBlamed 41 = .ok (.goto (-35), 3) := by decide +kernel
theorem dX9_mostBlamed_44 : decode cX9_mostBlamed 44 = .ok (.iload_n 1, 1) := by decide +kernel
theorem dX9_mostBlamed_45 : decode cX9_mostBlamed 45 = .ok (.iconst (-1), 1) := by decide +kernel
theorem dX9_mostBlamed_46 : decode cX9_mostBlamed 46 = .ok (.if_icmp .ne 11, 3) := by decide +kernel
theorem dX9_mostBlamed_49 : decode cX9_mostBlamed 49 = .ok (.new 182, 3) := by decide +kernel
theorem dX9_mostBlamed_52 : decode cX9_mostBlamed 52 = .ok (.dup, 1) := by decide +kernel
theorem dX9_mostBlamed_53 : decode cX9_mostBlamed 53 = .ok (.invokespecial 184, 3) := by decide +kernel
theorem dX9_mostBlamed_56 : decode cX9_mostBlamed 56 = .ok (.athrow, 1) := by decide +kernel
theorem dX9_mostBlamed_57 : decode cX9_mostBlamed 57 = .ok (.iload_n 1, 1) := by decide +kernel
theorem dX9_mostBlamed_58 : decode cX9_mostBlamed 58 = .ok (.ireturn, 1) := by decide +kernel
theorem dX9_relief_0 : decode cX9_relief 0 = .ok (.aload_n 0, 1) := by decide +kernel
theorem dX9_relief_1 : decode cX9_relief 1 = .ok (.iload_n 1, 1) := by decide +kernel
theorem dX9_relief_2 : decode cX9_relief 2 = .ok (.invokevirtual 98, 3) := by decide +kernel
theorem dX9_relief_5 : decode cX9_relief 5 = .ok (.aload_n 0, 1) := by decide +kernel
theorem dX9_relief_6 : decode cX9_relief 6 = .ok (.getfield 36, 3) := by decide +kernel
theorem dX9_relief_9 : decode cX9_relief 9 = .ok (.aload_n 0, 1) := by decide +kernel
theorem dX9_relief_10 : decode cX9_relief 10 = .ok (.getfield 12, 3) := by decide +kernel
theorem dX9_relief_13 : decode cX9_relief 13 = .ok (.iload_n 1, 1) := by decide +kernel
theorem dX9_relief_14 : decode cX9_relief 14 = .ok (.invokevirtual 185, 3) := by decide +kernel
theorem dX9_relief_17 : decode cX9_relief 17 = .ok (.ireturn, 1) := by decide +kernel
theorem dX9_takeBest_0 : decode cX9_takeBest 0 = .ok (.aload_n 0, 1) := by decide +kernel
theorem dX9_takeBest_1 : decode cX9_takeBest 1 = .ok (.getfield 12, 3) := by decide +kernel
theorem dX9_takeBest_4 : decode cX9_takeBest 4 = .ok (.invokevirtual 172, 3) := by decide +kernel
theorem dX9_takeBest_7 : decode cX9_takeBest 7 = .ok (.istore_n 1, 1) := by decide +kernel
theorem dX9_takeBest_8 : decode cX9_takeBest 8 = .ok (.aload_n 0, 1) := by decide +kernel
theorem dX9_takeBest_9 : decode cX9_takeBest 9 = .ok (.getfield 12, 3) := by decide +kernel
theorem dX9_takeBest_12 : decode cX9_takeBest 12 = .ok (.aload_n 0, 1) := by decide +kernel
theorem dX9_takeBest_13 : decode cX9_takeBest 13 = .ok (.getfield 36, 3) := by decide +kernel
theorem dX9_takeBest_16 : decode cX9_takeBest 16 = .ok (.getfield 163, 3) := by decide +kernel
theorem dX9_takeBest_19 : decode cX9_takeBest 19 = .ok (.invokevirtual 189, 3) := by decide +kernel
theorem dX9_takeBest_22 : decode cX9_takeBest 22 = .ok (.iload_n 1, 1) := by decide +kernel
theorem dX9_takeBest_23 : decode cX9_takeBest 23 = .ok (.aload_n 0, 1) := by decide +kernel
theorem dX9_takeBest_24 : decode cX9_takeBest 24 = .ok (.getfield 12, 3) := by decide +kernel
theorem dX9_takeBest_27 : decode cX9_takeBest 27 = .ok (.invokevirtual 172, 3) := by decide +kernel
theorem dX9_takeBest_30 : decode cX9_takeBest 30 = .ok (.isub, 1) := by decide +kernel
theorem dX9_takeBest_31 : decode cX9_takeBest 31 = .ok (.ireturn, 1) := by decide +kernel
theorem dX9_setNeighborhood_0 : decode cX9_setNeighborhood 0 = .ok (.iload_n 1, 1) := by decide +kernel
theorem dX9_setNeighborhood_1 : decode cX9_setNeighborhood 1 = .ok (.iconst 0, 1) := by decide +kernel
theorem dX9_setNeighborhood_2 : decode cX9_setNeighborhood 2 = .ok (.bipush 15, 2) := by decide +kernel
theorem dX9_setNeighborhood_4 : decode cX9_setNeighborhood 4 = .ok (.invokestatic 114, 3) := by decide +kernel
theorem dX9_setNeighborhood_7 : decode cX9_setNeighborhood 7 = .ok (.aload_n 0, 1) := by decide +kernel
theorem dX9_setNeighborhood_8 : decode cX9_setNeighborhood 8 = .ok (.getfield 29, 3) := by decide +kernel
theorem dX9_setNeighborhood_11 : decode cX9_setNeighborhood 11 = .ok (.getfield 193, 3) := by decide +kernel
theorem dX9_setNeighborhood_14 : decode cX9_setNeighborhood 14 = .ok (.istore_n 2, 1) := by decide +kernel
theorem dX9_setNeighborhood_15 : decode cX9_setNeighborhood 15 = .ok (.aload_n 0, 1) := by decide +kernel
theorem dX9_setNeighborhood_16 : decode cX9_setNeighborhood 16 = .ok (.getfield 29, 3) := by decide +kernel
theorem dX9_setNeighborhood_19 : decode cX9_setNeighborhood 19 = .ok (.iload_n 1, 1) := by decide +kernel
theorem dX9_setNeighborhood_20 : decode cX9_setNeighborhood 20 = .ok (.putfield 193, 3) := by decide +kernel
theorem dX9_setNeighborhood_23 : decode cX9_setNeighborhood 23 = .ok (.iload_n 2, 1) := by decide +kernel
theorem dX9_setNeighborhood_24 : decode cX9_setNeighborhood 24 = .ok (.ireturn, 1) := by decide +kernel
theorem dX9_setTenure_0 : decode cX9_setTenure 0 = .ok (.iload_n 1, 1) := by decide +kernel
theorem dX9_setTenure_1 : decode cX9_setTenure 1 = .ok (.iconst 0, 1) := by decide +kernel
theorem dX9_setTenure_2 : decode cX9_setTenure 2 = .ok (.bipush 20, 2) := by decide +kernel
theorem dX9_setTenure_4 : decode cX9_setTenure 4 = .ok (.invokestatic 114, 3) := by decide +kernel
theorem dX9_setTenure_7 : decode cX9_setTenure 7 = .ok (.aload_n 0, 1) := by decide +kernel
theorem dX9_setTenure_8 : decode cX9_setTenure 8 = .ok (.getfield 29, 3) := by decide +kernel
theorem dX9_setTenure_11 : decode cX9_setTenure 11 = .ok (.getfield 195, 3) := by decide +kernel
theorem dX9_setTenure_14 : decode cX9_setTenure 14 = .ok (.istore_n 2, 1) := by decide +kernel
theorem dX9_setTenure_15 : decode cX9_setTenure 15 = .ok (.aload_n 0, 1) := by decide +kernel
theorem dX9_setTenure_16 : decode cX9_setTenure 16 = .ok (.getfield 29, 3) := by decide +kernel
theorem dX9_setTenure_19 : decode cX9_setTenure 19 = .ok (.iload_n 1, 1) := by decide +kernel
theorem dX9_setTenure_20 : decode cX9_setTenure 20 = .ok (.putfield 195, 3) := by decide +kernel
theorem dX9_setTenure_23 : decode cX9_setTenure 23 = .ok (.iload_n 2, 1) := by decide +kernel
theorem dX9_setTenure_24 : decode cX9_setTenure 24 = .ok (.ireturn, 1) := by decide +kernel
theorem dX9_setPatience_0 : decode cX9_setPatience 0 = .ok (.iload_n 1, 1) := by decide +kernel
theorem dX9_setPatience_1 : decode cX9_setPatience 1 = .ok (.iconst 1, 1) := by decide +kernel
theorem dX9_setPatience_2 : decode cX9_setPatience 2 = .ok (.bipush 100, 2) := by decide +kernel
theorem dX9_setPatience_4 : decode cX9_setPatience 4 = .ok (.invokestatic 114, 3) := by decide +kernel
theorem dX9_setPatience_7 : decode cX9_setPatience 7 = .ok (.aload_n 0, 1) := by decide +kernel
theorem dX9_setPatience_8 : decode cX9_setPatience 8 = .ok (.getfield 29, 3) := by decide +kernel
theorem dX9_setPatience_11 : decode cX9_setPatience 11 = .ok (.getfield 198, 3) := by decide +kernel
theorem dX9_setPatience_14 : decode cX9_setPatience 14 = .ok (.istore_n 2, 1) := by decide +kernel
theorem dX9_setPatience_15 : decode cX9_setPatience 15 = .ok (.aload_n 0, 1) := by decide +kernel
theorem dX9_setPatience_16 : decode cX9_setPatience 16 = .ok (.getfield 29, 3) := by decide +kernel
theorem dX9_setPatience_19 : decode cX9_setPatience 19 = .ok (.iload_n 1, 1) := by decide +kernel
theorem dX9_setPatience_20 : decode cX9_setPatience 20 = .ok (.putfield 198, 3) := by decide +kernel
theorem dX9_setPatience_23 : decode cX9_setPatience 23 = .ok (.iload_n 2, 1) := by decide +kernel
theorem dX9_setPatience_24 : decode cX9_setPatience 24 = .ok (.ireturn, 1) := by decide +kernel
theorem dX9_setSeed_0 : decode cX9_setSeed 0 = .ok (.iload_n 1, 1) := by decide +kernel
theorem dX9_setSeed_1 : decode cX9_setSeed 1 = .ok (.iconst 0, 1) := by decide +kernel
theorem dX9_setSeed_2 : decode cX9_setSeed 2 = .ok (.ldc 201, 2) := by decide +kernel
theorem dX9_setSeed_4 : decode cX9_setSeed 4 = .ok (.invokestatic 114, 3) := by decide +kernel
theorem dX9_setSeed_7 : decode cX9_setSeed 7 = .ok (.aload_n 0, 1) := by decide +kernel
theorem dX9_setSeed_8 : decode cX9_setSeed 8 = .ok (.getfield 29, 3) := by decide +kernel
theorem dX9_setSeed_11 : decode cX9_setSeed 11 = .ok (.getfield 202, 3) := by decide +kernel
theorem dX9_setSeed_14 : decode cX9_setSeed 14 = .ok (.istore_n 2, 1) := by decide +kernel
theorem dX9_setSeed_15 : decode cX9_setSeed 15 = .ok (.aload_n 0, 1) := by decide +kernel
theorem dX9_setSeed_16 : decode cX9_setSeed 16 = .ok (.getfield 29, 3) := by decide +kernel
theorem dX9_setSeed_19 : decode cX9_setSeed 19 = .ok (.iload_n 1, 1) := by decide +kernel
theorem dX9_setSeed_20 : decode cX9_setSeed 20 = .ok (.putfield 202, 3) := by decide +kernel
theorem dX9_setSeed_23 : decode cX9_setSeed 23 = .ok (.iload_n 2, 1) := by decide +kernel
theorem dX9_setSeed_24 : decode cX9_setSeed 24 = .ok (.ireturn, 1) := by decide +kernel
theorem dX9_moves_0 : decode cX9_moves 0 = .ok (.aload_n 0, 1) := by decide +kernel
theorem dX9_moves_1 : decode cX9_moves 1 = .ok (.getfield 36, 3) := by decide +kernel
theorem dX9_moves_4 : decode cX9_moves 4 = .ok (.getfield 205, 3) := by decide +kernel
theorem dX9_moves_7 : decode cX9_moves 7 = .ok (.aload_n 0, 1) := by decide +kernel
theorem dX9_moves_8 : decode cX9_moves 8 = .ok (.getfield 12, 3) := by decide +kernel
theorem dX9_moves_11 : decode cX9_moves 11 = .ok (.aload_n 0, 1) := by decide +kernel
theorem dX9_moves_12 : decode cX9_moves 12 = .ok (.getfield 29, 3) := by decide +kernel
theorem dX9_moves_15 : decode cX9_moves 15 = .ok (.getfield 193, 3) := by decide +kernel
theorem dX9_moves_18 : decode cX9_moves 18 = .ok (.invokevirtual 209, 3) := by decide +kernel
theorem dX9_moves_21 : decode cX9_moves 21 = .ok (.iload_n 1, 1) := by decide +kernel
theorem dX9_moves_22 : decode cX9_moves 22 = .ok (.ifCond .eq 17, 3) := by decide +kernel
theorem dX9_moves_25 : decode cX9_moves 25 = .ok (.aload_n 0, 1) := by decide +kernel
theorem dX9_moves_26 : decode cX9_moves 26 = .ok (.getfield 36, 3) := by decide +kernel
theorem dX9_moves_29 : decode cX9_moves 29 = .ok (.aload_n 0, 1) := by decide +kernel
theorem dX9_moves_30 : decode cX9_moves 30 = .ok (.getfield 12, 3) := by decide +kernel
theorem dX9_moves_33 : decode cX9_moves 33 = .ok (.invokevirtual 215, 3) := by decide +kernel
theorem dX9_moves_36 : decode cX9_moves 36 = .ok (.goto 13, 3) := by decide +kernel
theorem dX9_moves_39 : decode cX9_moves 39 = .ok (.aload_n 0, 1) := by decide +kernel
theorem dX9_moves_40 : decode cX9_moves 40 = .ok (.getfield 36, 3) := by decide +kernel
theorem dX9_moves_43 : decode cX9_moves 43 = .ok (.getfield 205, 3) := by decide +kernel
theorem dX9_moves_46 : decode cX9_moves 46 = .ok (.getfield 219, 3) := by decide +kernel
theorem dX9_moves_49 : decode cX9_moves 49 = .ok (.ireturn, 1) := by decide +kernel
theorem dX9_move_0 : decode cX9_move 0 = .ok (.aload_n 0, 1) := by decide +kernel
theorem dX9_move_1 : decode cX9_move 1 = .ok (.getfield 36, 3) := by decide +kernel
theorem dX9_move_4 : decode cX9_move 4 = .ok (.getfield 205, 3) := by decide +kernel
theorem dX9_move_7 : decode cX9_move 7 = .ok (.aload_n 0, 1) := by decide +kernel
theorem dX9_move_8 : decode cX9_move 8 = .ok (.getfield 12, 3) := by decide +kernel
theorem dX9_move_11 : decode cX9_move 11 = .ok (.aload_n 0, 1) := by decide +kernel
theorem dX9_move_12 : decode cX9_move 12 = .ok (.getfield 29, 3) := by decide +kernel
theorem dX9_move_15 : decode cX9_move 15 = .ok (.getfield 193, 3) := by decide +kernel
theorem dX9_move_18 : decode cX9_move 18 = .ok (.invokevirtual 209, 3) := by decide +kernel
theorem dX9_move_21 : decode cX9_move 21 = .ok (.iload_n 1, 1) := by decide +kernel
theorem dX9_move_22 : decode cX9_move 22 = .ok (.ifCond .lt 17, 3) := by decide +kernel
theorem dX9_move_25 : decode cX9_move 25 = .ok (.iload_n 1, 1) := by decide +kernel
theorem dX9_move_26 : decode cX9_move 26 = .ok (.aload_n 0, 1) := by decide +kernel
theorem dX9_move_27 : decode cX9_move 27 = .ok (.getfield 36, 3) := by decide +kernel
theorem dX9_move_30 : decode cX9_move 30 = .ok (.getfield 205, 3) := by decide +kernel
theorem dX9_move_33 : decode cX9_move 33 = .ok (.getfield 219, 3) := by decide +kernel
theorem dX9_move_36 : decode cX9_move 36 = .ok (.if_icmp .lt 11, 3) := by decide +kernel
theorem dX9_move_39 : decode cX9_move 39 = .ok (.new 222, 3) := by decide +kernel
theorem dX9_move_42 : decode cX9_move 42 = .ok (.dup, 1) := by decide +kernel
theorem dX9_move_43 : decode cX9_move 43 = .ok (.invokespecial 224, 3) := by decide +kernel
theorem dX9_move_46 : decode cX9_move 46 = .ok (.athrow, 1) := by decide +kernel
theorem dX9_move_47 : decode cX9_move 47 = .ok (.iload_n 2, 1) := by decide +kernel
theorem dX9_move_48 : decode cX9_move 48 = .ok (.tableswitch 100 0 5 #[40, 40, 40, 40, 55, 68], 40) := by decide +kernel
theorem dX9_move_88 : decode cX9_move 88 = .ok (.aload_n 0, 1) := by decide +kernel
theorem dX9_move_89 : decode cX9_move 89 = .ok (.getfield 36, 3) := by decide +kernel
theorem dX9_move_92 : decode cX9_move 92 = .ok (.getfield 205, 3) := by decide +kernel
theorem dX9_move_95 : decode cX9_move 95 = .ok (.getfield 225, 3) := by decide +kernel
theorem dX9_move_98 : decode cX9_move 98 = .ok (.iload_n 2, 1) := by decide +kernel
theorem dX9_move_99 : decode cX9_move 99 = .ok (.aaload, 1) := by decide +kernel
theorem dX9_move_100 : decode cX9_move 100 = .ok (.iload_n 1, 1) := by decide +kernel
theorem dX9_move_101 : decode cX9_move 101 = .ok (.iaload, 1) := by decide +kernel
theorem dX9_move_102 : decode cX9_move 102 = .ok (.ireturn, 1) := by decide +kernel
theorem dX9_move_103 : decode cX9_move 103 = .ok (.aload_n 0, 1) := by decide +kernel
theorem dX9_move_104 : decode cX9_move 104 = .ok (.getfield 36, 3) := by decide +kernel
theorem dX9_move_107 : decode cX9_move 107 = .ok (.aload_n 0, 1) := by decide +kernel
theorem dX9_move_108 : decode cX9_move 108 = .ok (.getfield 12, 3) := by decide +kernel
theorem dX9_move_111 : decode cX9_move 111 = .ok (.iload_n 1, 1) := by decide +kernel
theorem dX9_move_112 : decode cX9_move 112 = .ok (.invokevirtual 229, 3) := by decide +kernel
theorem dX9_move_115 : decode cX9_move 115 = .ok (.ireturn, 1) := by decide +kernel
theorem dX9_move_116 : decode cX9_move 116 = .ok (.aload_n 0, 1) := by decide +kernel
theorem dX9_move_117 : decode cX9_move 117 = .ok (.getfield 36, 3) := by decide +kernel
theorem dX9_move_120 : decode cX9_move 120 = .ok (.aload_n 0, 1) := by decide +kernel
theorem dX9_move_121 : decode cX9_move 121 = .ok (.getfield 12, 3) := by decide +kernel
theorem dX9_move_124 : decode cX9_move 124 = .ok (.aload_n 0, 1) := by decide +kernel
theorem dX9_move_125 : decode cX9_move 125 = .ok (.getfield 36, 3) := by decide +kernel
theorem dX9_move_128 : decode cX9_move 128 = .ok (.aload_n 0, 1) := by decide +kernel
theorem dX9_move_129 : decode cX9_move 129 = .ok (.getfield 12, 3) := by decide +kernel
theorem dX9_move_132 : decode cX9_move 132 = .ok (.iload_n 1, 1) := by decide +kernel
theorem dX9_move_133 : decode cX9_move 133 = .ok (.invokevirtual 229, 3) := by decide +kernel
theorem dX9_move_136 : decode cX9_move 136 = .ok (.invokevirtual 232, 3) := by decide +kernel
theorem dX9_move_139 : decode cX9_move 139 = .ok (.ifCond .eq 7, 3) := by decide +kernel
theorem dX9_move_142 : decode cX9_move 142 = .ok (.iconst 1, 1) := by decide +kernel
theorem dX9_move_143 : decode cX9_move 143 = .ok (.goto 4, 3) := by decide +kernel
theorem dX9_move_146 : decode cX9_move 146 = .ok (.iconst 0, 1) := by decide +kernel
theorem dX9_move_147 : decode cX9_move 147 = .ok (.ireturn, 1) := by decide +kernel
theorem dX9_move_148 : decode cX9_move 148 = .ok (.new 128, 3) := by decide +kernel
theorem dX9_move_151 : decode cX9_move 151 = .ok (.dup, 1) := by decide +kernel
theorem dX9_move_152 : decode cX9_move 152 = .ok (.invokespecial 130, 3) := by decide +kernel
theorem dX9_move_155 : decode cX9_move 155 = .ok (.athrow, 1) := by decide +kernel
theorem dX9_nextMove_0 : decode cX9_nextMove 0 = .ok (.aload_n 0, 1) := by decide +kernel
theorem dX9_nextMove_1 : decode cX9_nextMove 1 = .ok (.getfield 36, 3) := by decide +kernel
theorem dX9_nextMove_4 : decode cX9_nextMove 4 = .ok (.aload_n 0, 1) := by decide +kernel
theorem dX9_nextMove_5 : decode cX9_nextMove 5 = .ok (.getfield 12, 3) := by decide +kernel
theorem dX9_nextMove_8 : decode cX9_nextMove 8 = .ok (.aload_n 0, 1) := by decide +kernel
theorem dX9_nextMove_9 : decode cX9_nextMove 9 = .ok (.getfield 29, 3) := by decide +kernel
theorem dX9_nextMove_12 : decode cX9_nextMove 12 = .ok (.getfield 193, 3) := by decide +kernel
theorem dX9_nextMove_15 : decode cX9_nextMove 15 = .ok (.iconst 0, 1) := by decide +kernel
theorem dX9_nextMove_16 : decode cX9_nextMove 16 = .ok (.invokevirtual 236, 3) := by decide +kernel
theorem dX9_nextMove_19 : decode cX9_nextMove 19 = .ok (.istore_n 1, 1) := by decide +kernel
theorem dX9_nextMove_20 : decode cX9_nextMove 20 = .ok (.iload_n 1, 1) := by decide +kernel
theorem dX9_nextMove_21 : decode cX9_nextMove 21 = .ok (.iconst (-1), 1) := by decide +kernel
theorem dX9_nextMove_22 : decode cX9_nextMove 22 = .ok (.if_icmp .ne 11, 3) := by decide +kernel
theorem dX9_nextMove_25 : decode cX9_nextMove 25 = .ok (.new 182, 3) := by decide +kernel
theorem dX9_nextMove_28 : decode cX9_nextMove 28 = .ok (.dup, 1) := by decide +kernel
theorem dX9_nextMove_29 : decode cX9_nextMove 29 = .ok (.invokespecial 184, 3) := by decide +kernel
theorem dX9_nextMove_32 : decode cX9_nextMove 32 = .ok (.athrow, 1) := by decide +kernel
theorem dX9_nextMove_33 : decode cX9_nextMove 33 = .ok (.iload_n 1, 1) := by decide +kernel
theorem dX9_nextMove_34 : decode cX9_nextMove 34 = .ok (.ireturn, 1) := by decide +kernel
theorem dX9_isForbidden_0 : decode cX9_isForbidden 0 = .ok (.aload_n 0, 1) := by decide +kernel
theorem dX9_isForbidden_1 : decode cX9_isForbidden 1 = .ok (.iload_n 1, 1) := by decide +kernel
theorem dX9_isForbidden_2 : decode cX9_isForbidden 2 = .ok (.invokevirtual 98, 3) := by decide +kernel
theorem dX9_isForbidden_5 : decode cX9_isForbidden 5 = .ok (.iload_n 2, 1) := by decide +kernel
theorem dX9_isForbidden_6 : decode cX9_isForbidden 6 = .ok (.iconst 0, 1) := by decide +kernel
theorem dX9_isForbidden_7 : decode cX9_isForbidden 7 = .ok (.aload_n 0, 1) := by decide +kernel
theorem dX9_isForbidden_8 : decode cX9_isForbidden 8 = .ok (.getfield 12, 3) := by decide +kernel
theorem dX9_isForbidden_11 : decode cX9_isForbidden 11 = .ok (.getfield 101, 3) := by decide +kernel
theorem dX9_isForbidden_14 : decode cX9_isForbidden 14 = .ok (.iload_n 1, 1) := by decide +kernel
theorem dX9_isForbidden_15 : decode cX9_isForbidden 15 = .ok (.iaload, 1) := by decide +kernel
theorem dX9_isForbidden_16 : decode cX9_isForbidden 16 = .ok (.iconst 1, 1) := by decide +kernel
theorem dX9_isForbidden_17 : decode cX9_isForbidden 17 = .ok (.isub, 1) := by decide +kernel
theorem dX9_isForbidden_18 : decode cX9_isForbidden 18 = .ok (.invokestatic 114, 3) := by decide +kernel
theorem dX9_isForbidden_21 : decode cX9_isForbidden 21 = .ok (.aload_n 0, 1) := by decide +kernel
theorem dX9_isForbidden_22 : decode cX9_isForbidden 22 = .ok (.getfield 36, 3) := by decide +kernel
theorem dX9_isForbidden_25 : decode cX9_isForbidden 25 = .ok (.iload_n 1, 1) := by decide +kernel
theorem dX9_isForbidden_26 : decode cX9_isForbidden 26 = .ok (.iload_n 2, 1) := by decide +kernel
theorem dX9_isForbidden_27 : decode cX9_isForbidden 27 = .ok (.invokevirtual 240, 3) := by decide +kernel
theorem dX9_isForbidden_30 : decode cX9_isForbidden 30 = .ok (.ireturn, 1) := by decide +kernel
theorem dX9_isLocalOptimum_0 : decode cX9_isLocalOptimum 0 = .ok (.aload_n 0, 1) := by decide +kernel
theorem dX9_isLocalOptimum_1 : decode cX9_isLocalOptimum 1 = .ok (.getfield 36, 3) := by decide +kernel
theorem dX9_isLocalOptimum_4 : decode cX9_isLocalOptimum 4 = .ok (.aload_n 0, 1) := by decide +kernel
theorem dX9_isLocalOptimum_5 : decode cX9_isLocalOptimum 5 = .ok (.getfield 12, 3) := by decide +kernel
theorem dX9_isLocalOptimum_8 : decode cX9_isLocalOptimum 8 = .ok (.aload_n 0, 1) := by decide +kernel
theorem dX9_isLocalOptimum_9 : decode cX9_isLocalOptimum 9 = .ok (.getfield 29, 3) := by decide +kernel
theorem dX9_isLocalOptimum_12 : decode cX9_isLocalOptimum 12 = .ok (.getfield 193, 3) := by decide +kernel
theorem dX9_isLocalOptimum_15 : decode cX9_isLocalOptimum 15 = .ok (.invokevirtual 243, 3) := by decide +kernel
theorem dX9_isLocalOptimum_18 : decode cX9_isLocalOptimum 18 = .ok (.iconst (-1), 1) := by decide +kernel
theorem dX9_isLocalOptimum_19 : decode cX9_isLocalOptimum 19 = .ok (.if_icmp .ne 7, 3) := by decide +kernel
theorem dX9_isLocalOptimum_22 : decode cX9_isLocalOptimum 22 = .ok (.iconst 1, 1) := by decide +kernel
theorem dX9_isLocalOptimum_23 : decode cX9_isLocalOptimum 23 = .ok (.goto 4, 3) := by decide +kernel
theorem dX9_isLocalOptimum_26 : decode cX9_isLocalOptimum 26 = .ok (.iconst 0, 1) := by decide +kernel
theorem dX9_isLocalOptimum_27 : decode cX9_isLocalOptimum 27 = .ok (.ireturn, 1) := by decide +kernel
theorem dX9_step_0 : decode cX9_step 0 = .ok (.aload_n 0, 1) := by decide +kernel
theorem dX9_step_1 : decode cX9_step 1 = .ok (.getfield 36, 3) := by decide +kernel
theorem dX9_step_4 : decode cX9_step 4 = .ok (.aload_n 0, 1) := by decide +kernel
theorem dX9_step_5 : decode cX9_step 5 = .ok (.getfield 12, 3) := by decide +kernel
theorem dX9_step_8 : decode cX9_step 8 = .ok (.aload_n 0, 1) := by decide +kernel
theorem dX9_step_9 : decode cX9_step 9 = .ok (.getfield 29, 3) := by decide +kernel
theorem dX9_step_12 : decode cX9_step 12 = .ok (.invokevirtual 246, 3) := by decide +kernel
theorem dX9_step_15 : decode cX9_step 15 = .ok (.ifCond .ne 11, 3) := by decide +kernel
theorem dX9_step_18 : decode cX9_step 18 = .ok (.new 182, 3) := by decide +kernel
theorem dX9_step_21 : decode cX9_step 21 = .ok (.dup, 1) := by decide +kernel
theorem dX9_step_22 : decode cX9_step 22 = .ok (.invokespecial 184, 3) := by decide +kernel
theorem dX9_step_25 : decode cX9_step 25 = .ok (.athrow, 1) := by decide +kernel
theorem dX9_step_26 : decode cX9_step 26 = .ok (.aload_n 0, 1) := by decide +kernel
theorem dX9_step_27 : decode cX9_step 27 = .ok (.getfield 12, 3) := by decide +kernel
theorem dX9_step_30 : decode cX9_step 30 = .ok (.invokevirtual 172, 3) := by decide +kernel
theorem dX9_step_33 : decode cX9_step 33 = .ok (.ireturn, 1) := by decide +kernel
theorem dX9_run_0 : decode cX9_run 0 = .ok (.iload_n 1, 1) := by decide +kernel
theorem dX9_run_1 : decode cX9_run 1 = .ok (.iconst 1, 1) := by decide +kernel
theorem dX9_run_2 : decode cX9_run 2 = .ok (.bipush 30, 2) := by decide +kernel
theorem dX9_run_4 : decode cX9_run 4 = .ok (.invokestatic 114, 3) := by decide +kernel
theorem dX9_run_7 : decode cX9_run 7 = .ok (.iconst 0, 1) := by decide +kernel
theorem dX9_run_8 : decode cX9_run 8 = .ok (.istore_n 2, 1) := by decide +kernel
theorem dX9_run_9 : decode cX9_run 9 = .ok (.iload_n 2, 1) := by decide +kernel
theorem dX9_run_10 : decode cX9_run 10 = .ok (.iload_n 1, 1) := by decide +kernel
theorem dX9_run_11 : decode cX9_run 11 = .ok (.if_icmp .ge 39, 3) := by decide +kernel
theorem dX9_run_14 : decode cX9_run 14 = .ok (.aload_n 0, 1) := by decide +kernel
theorem dX9_run_15 : decode cX9_run 15 = .ok (.getfield 12, 3) := by decide +kernel
theorem dX9_run_18 : decode cX9_run 18 = .ok (.invokevirtual 172, 3) := by decide +kernel
theorem dX9_run_21 : decode cX9_run 21 = .ok (.ifCond .eq 21, 3) := by decide +kernel
theorem dX9_run_24 : decode cX9_run 24 = .ok (.aload_n 0, 1) := by decide +kernel
theorem dX9_run_25 : decode cX9_run 25 = .ok (.getfield 36, 3) := by decide +kernel
theorem dX9_run_28 : decode cX9_run 28 = .ok (.aload_n 0, 1) := by decide +kernel
theorem dX9_run_29 : decode cX9_run 29 = .ok (.getfield 12, 3) := by decide +kernel
theorem dX9_run_32 : decode cX9_run 32 = .ok (.aload_n 0, 1) := by decide +kernel
theorem dX9_run_33 : decode cX9_run 33 = .ok (.getfield 29, 3) := by decide +kernel
theorem dX9_run_36 : decode cX9_run 36 = .ok (.invokevirtual 246, 3) := by decide +kernel
theorem dX9_run_39 : decode cX9_run 39 = .ok (.ifCond .ne 5, 3) := by decide +kernel
theorem dX9_run_42 : decode cX9_run 42 = .ok (.iload_n 2, 1) := by decide +kernel
theorem dX9_run_43 : decode cX9_run 43 = .ok (.ireturn, 1) := by decide +kernel
theorem dX9_run_44 : decode cX9_run 44 = .ok (.iinc 2 1, 3) := by decide +kernel
theorem dX9_run_47 : decode cX9_run 47 = .ok (.goto (-38), 3) := by decide +kernel
theorem dX9_run_50 : decode cX9_run 50 = .ok (.iload_n 1, 1) := by decide +kernel
theorem dX9_run_51 : decode cX9_run 51 = .ok (.ireturn, 1) := by decide +kernel
theorem dX9_descend_0 : decode cX9_descend 0 = .ok (.iconst 0, 1) := by decide +kernel
theorem dX9_descend_1 : decode cX9_descend 1 = .ok (.istore_n 1, 1) := by decide +kernel
theorem dX9_descend_2 : decode cX9_descend 2 = .ok (.iload_n 1, 1) := by decide +kernel
theorem dX9_descend_3 : decode cX9_descend 3 = .ok (.ldc 250, 2) := by decide +kernel
theorem dX9_descend_5 : decode cX9_descend 5 = .ok (.if_icmp .ge 47, 3) := by decide +kernel
theorem dX9_descend_8 : decode cX9_descend 8 = .ok (.aload_n 0, 1) := by decide +kernel
theorem dX9_descend_9 : decode cX9_descend 9 = .ok (.getfield 36, 3) := by decide +kernel
theorem dX9_descend_12 : decode cX9_descend 12 = .ok (.aload_n 0, 1) := by decide +kernel
theorem dX9_descend_13 : decode cX9_descend 13 = .ok (.getfield 12, 3) := by decide +kernel
theorem dX9_descend_16 : decode cX9_descend 16 = .ok (.aload_n 0, 1) := by decide +kernel
theorem dX9_descend_17 : decode cX9_descend 17 = .ok (.getfield 29, 3) := by decide +kernel
theorem dX9_descend_20 : decode cX9_descend 20 = .ok (.getfield 193, 3) := by decide +kernel
theorem dX9_descend_23 : decode cX9_descend 23 = .ok (.invokevirtual 243, 3) := by decide +kernel
theorem dX9_descend_26 : decode cX9_descend 26 = .ok (.istore_n 2, 1) := by decide +kernel
theorem dX9_descend_27 : decode cX9_descend 27 = .ok (.iload_n 2, 1) := by decide +kernel
theorem dX9_descend_28 : decode cX9_descend 28 = .ok (.iconst (-1), 1) := by decide +kernel
theorem dX9_descend_29 : decode cX9_descend 29 = .ok (.if_icmp .ne 5, 3) := by decide +kernel
theorem dX9_descend_32 : decode cX9_descend 32 = .ok (.iload_n 1, 1) := by decide +kernel
theorem dX9_descend_33 : decode cX9_descend 33 = .ok (.ireturn, 1) := by decide +kernel
theorem dX9_descend_34 : decode cX9_descend 34 = .ok (.aload_n 0, 1) := by decide +kernel
theorem dX9_descend_35 : decode cX9_descend 35 = .ok (.getfield 36, 3) := by decide +kernel
theorem dX9_descend_38 : decode cX9_descend 38 = .ok (.aload_n 0, 1) := by decide +kernel
theorem dX9_descend_39 : decode cX9_descend 39 = .ok (.getfield 12, 3) := by decide +kernel
theorem dX9_descend_42 : decode cX9_descend 42 = .ok (.iload_n 2, 1) := by decide +kernel
theorem dX9_descend_43 : decode cX9_descend 43 = .ok (.invokevirtual 251, 3) := by decide +kernel
theorem dX9_descend_46 : decode cX9_descend 46 = .ok (.iinc 1 1, 3) := by decide +kernel
theorem dX9_descend_49 : decode cX9_descend 49 = .ok (.goto (-47), 3) := by decide +kernel
theorem dX9_descend_52 : decode cX9_descend 52 = .ok (.ldc 250, 2) := by decide +kernel
theorem dX9_descend_54 : decode cX9_descend 54 = .ok (.ireturn, 1) := by decide +kernel
theorem dX9_restart_0 : decode cX9_restart 0 = .ok (.aload_n 0, 1) := by decide +kernel
theorem dX9_restart_1 : decode cX9_restart 1 = .ok (.getfield 36, 3) := by decide +kernel
theorem dX9_restart_4 : decode cX9_restart 4 = .ok (.aload_n 0, 1) := by decide +kernel
theorem dX9_restart_5 : decode cX9_restart 5 = .ok (.getfield 12, 3) := by decide +kernel
theorem dX9_restart_8 : decode cX9_restart 8 = .ok (.aload_n 0, 1) := by decide +kernel
theorem dX9_restart_9 : decode cX9_restart 9 = .ok (.getfield 29, 3) := by decide +kernel
theorem dX9_restart_12 : decode cX9_restart 12 = .ok (.invokevirtual 254, 3) := by decide +kernel
theorem dX9_restart_15 : decode cX9_restart 15 = .ok (.aload_n 0, 1) := by decide +kernel
theorem dX9_restart_16 : decode cX9_restart 16 = .ok (.getfield 12, 3) := by decide +kernel
theorem dX9_restart_19 : decode cX9_restart 19 = .ok (.invokevirtual 172, 3) := by decide +kernel
theorem dX9_restart_22 : decode cX9_restart 22 = .ok (.ireturn, 1) := by decide +kernel
theorem dX9_search_0 : decode cX9_search 0 = .ok (.iload_n 1, 1) := by decide +kernel
theorem dX9_search_1 : decode cX9_search 1 = .ok (.tableswitch 75 0 4 #[35, 43, 51, 59, 67], 35) := by decide +kernel
theorem dX9_search_36 : decode cX9_search 36 = .ok (.aload_n 0, 1) := by decide +kernel
theorem dX9_search_37 : decode cX9_search 37 = .ok (.getfield 36, 3) := by decide +kernel
theorem dX9_search_40 : decode cX9_search 40 = .ok (.getfield 258, 3) := by decide +kernel
theorem dX9_search_43 : decode cX9_search 43 = .ok (.ireturn, 1) := by decide +kernel
theorem dX9_search_44 : decode cX9_search 44 = .ok (.aload_n 0, 1) := by decide +kernel
theorem dX9_search_45 : decode cX9_search 45 = .ok (.getfield 36, 3) := by decide +kernel
theorem dX9_search_48 : decode cX9_search 48 = .ok (.getfield 261, 3) := by decide +kernel
theorem dX9_search_51 : decode cX9_search 51 = .ok (.ireturn, 1) := by decide +kernel
theorem dX9_search_52 : decode cX9_search 52 = .ok (.aload_n 0, 1) := by decide +kernel
theorem dX9_search_53 : decode cX9_search 53 = .ok (.getfield 36, 3) := by decide +kernel
theorem dX9_search_56 : decode cX9_search 56 = .ok (.getfield 264, 3) := by decide +kernel
theorem dX9_search_59 : decode cX9_search 59 = .ok (.ireturn, 1) := by decide +kernel
theorem dX9_search_60 : decode cX9_search 60 = .ok (.aload_n 0, 1) := by decide +kernel
theorem dX9_search_61 : decode cX9_search 61 = .ok (.getfield 29, 3) := by decide +kernel
theorem dX9_search_64 : decode cX9_search 64 = .ok (.getfield 202, 3) := by decide +kernel
theorem dX9_search_67 : decode cX9_search 67 = .ok (.ireturn, 1) := by decide +kernel
theorem dX9_search_68 : decode cX9_search 68 = .ok (.aload_n 0, 1) := by decide +kernel
theorem dX9_search_69 : decode cX9_search 69 = .ok (.getfield 36, 3) := by decide +kernel
theorem dX9_search_72 : decode cX9_search 72 = .ok (.getfield 267, 3) := by decide +kernel
theorem dX9_search_75 : decode cX9_search 75 = .ok (.ireturn, 1) := by decide +kernel
theorem dX9_search_76 : decode cX9_search 76 = .ok (.new 128, 3) := by decide +kernel
theorem dX9_search_79 : decode cX9_search 79 = .ok (.dup, 1) := by decide +kernel
theorem dX9_search_80 : decode cX9_search 80 = .ok (.invokespecial 130, 3) := by decide +kernel
theorem dX9_search_83 : decode cX9_search 83 = .ok (.athrow, 1) := by decide +kernel
theorem dX9_logSize_0 : decode cX9_logSize 0 = .ok (.aload_n 0, 1) := by decide +kernel
theorem dX9_logSize_1 : decode cX9_logSize 1 = .ok (.getfield 36, 3) := by decide +kernel
theorem dX9_logSize_4 : decode cX9_logSize 4 = .ok (.getfield 270, 3) := by decide +kernel
theorem dX9_logSize_7 : decode cX9_logSize 7 = .ok (.getfield 274, 3) := by decide +kernel
theorem dX9_logSize_10 : decode cX9_logSize 10 = .ok (.ireturn, 1) := by decide +kernel
theorem dX9_log_0 : decode cX9_log 0 = .ok (.iload_n 1, 1) := by decide +kernel
theorem dX9_log_1 : decode cX9_log 1 = .ok (.ifCond .lt 17, 3) := by decide +kernel
theorem dX9_log_4 : decode cX9_log 4 = .ok (.iload_n 1, 1) := by decide +kernel
theorem dX9_log_5 : decode cX9_log 5 = .ok (.aload_n 0, 1) := by decide +kernel
theorem dX9_log_6 : decode cX9_log 6 = .ok (.getfield 36, 3) := by decide +kernel
theorem dX9_log_9 : decode cX9_log 9 = .ok (.getfield 270, 3) := by decide +kernel
theorem dX9_log_12 : decode cX9_log 12 = .ok (.getfield 274, 3) := by decide +kernel
theorem dX9_log_15 : decode cX9_log 15 = .ok (.if_icmp .lt 11, 3) := by decide +kernel
theorem dX9_log_18 : decode cX9_log 18 = .ok (.new 222, 3) := by decide +kernel
theorem dX9_log_21 : decode cX9_log 21 = .ok (.dup, 1) := by decide +kernel
theorem dX9_log_22 : decode cX9_log 22 = .ok (.invokespecial 224, 3) := by decide +kernel
theorem dX9_log_25 : decode cX9_log 25 = .ok (.athrow, 1) := by decide +kernel
theorem dX9_log_26 : decode cX9_log 26 = .ok (.iload_n 2, 1) := by decide +kernel
theorem dX9_log_27 : decode cX9_log 27 = .ok (.iconst 0, 1) := by decide +kernel
theorem dX9_log_28 : decode cX9_log 28 = .ok (.iconst 5, 1) := by decide +kernel
theorem dX9_log_29 : decode cX9_log 29 = .ok (.invokestatic 114, 3) := by decide +kernel
theorem dX9_log_32 : decode cX9_log 32 = .ok (.aload_n 0, 1) := by decide +kernel
theorem dX9_log_33 : decode cX9_log 33 = .ok (.getfield 36, 3) := by decide +kernel
theorem dX9_log_36 : decode cX9_log 36 = .ok (.getfield 270, 3) := by decide +kernel
theorem dX9_log_39 : decode cX9_log 39 = .ok (.iload_n 1, 1) := by decide +kernel
theorem dX9_log_40 : decode cX9_log 40 = .ok (.iload_n 2, 1) := by decide +kernel
theorem dX9_log_41 : decode cX9_log 41 = .ok (.invokevirtual 277, 3) := by decide +kernel
theorem dX9_log_44 : decode cX9_log 44 = .ok (.ireturn, 1) := by decide +kernel
theorem dX9_improvingShare_0 : decode cX9_improvingShare 0 = .ok (.aload_n 0, 1) := by decide +kernel
theorem dX9_improvingShare_1 : decode cX9_improvingShare 1 = .ok (.getfield 36, 3) := by decide +kernel
theorem dX9_improvingShare_4 : decode cX9_improvingShare 4 = .ok (.getfield 270, 3) := by decide +kernel
theorem dX9_improvingShare_7 : decode cX9_improvingShare 7 = .ok (.getfield 274, 3) := by decide +kernel
theorem dX9_improvingShare_10 : decode cX9_improvingShare 10 = .ok (.istore_n 1, 1) := by decide +kernel
theorem dX9_improvingShare_11 : decode cX9_improvingShare 11 = .ok (.iload_n 1, 1) := by decide +kernel
theorem dX9_improvingShare_12 : decode cX9_improvingShare 12 = .ok (.ifCond .ne 11, 3) := by decide +kernel
theorem dX9_improvingShare_15 : decode cX9_improvingShare 15 = .ok (.new 280, 3) := by decide +kernel
theorem dX9_improvingShare_18 : decode cX9_improvingShare 18 = .ok (.dup, 1) := by decide +kernel
theorem dX9_improvingShare_19 : decode cX9_improvingShare 19 = .ok (.invokespecial 282, 3) := by decide +kernel
theorem dX9_improvingShare_22 : decode cX9_improvingShare 22 = .ok (.athrow, 1) := by decide +kernel
theorem dX9_improvingShare_23 : decode cX9_improvingShare 23 = .ok (.aload_n 0, 1) := by decide +kernel
theorem dX9_improvingShare_24 : decode cX9_improvingShare 24 = .ok (.getfield 36, 3) := by decide +kernel
theorem dX9_improvingShare_27 : decode cX9_improvingShare 27 = .ok (.getfield 270, 3) := by decide +kernel
theorem dX9_improvingShare_30 : decode cX9_improvingShare 30 = .ok (.invokevirtual 283, 3) := by decide +kernel
theorem dX9_improvingShare_33 : decode cX9_improvingShare 33 = .ok (.i2d, 1) := by decide +kernel
theorem dX9_improvingShare_34 : decode cX9_improvingShare 34 = .ok (.iload_n 1, 1) := by decide +kernel
theorem dX9_improvingShare_35 : decode cX9_improvingShare 35 = .ok (.i2d, 1) := by decide +kernel
theorem dX9_improvingShare_36 : decode cX9_improvingShare 36 = .ok (.ddiv, 1) := by decide +kernel
theorem dX9_improvingShare_37 : decode cX9_improvingShare 37 = .ok (.dreturn, 1) := by decide +kernel
theorem dX9_optimum_0 : decode cX9_optimum 0 = .ok (.aload_n 0, 1) := by decide +kernel
theorem dX9_optimum_1 : decode cX9_optimum 1 = .ok (.invokevirtual 286, 3) := by decide +kernel
theorem dX9_optimum_4 : decode cX9_optimum 4 = .ok (.aload_n 0, 1) := by decide +kernel
theorem dX9_optimum_5 : decode cX9_optimum 5 = .ok (.getfield 43, 3) := by decide +kernel
theorem dX9_optimum_8 : decode cX9_optimum 8 = .ok (.getfield 289, 3) := by decide +kernel
theorem dX9_optimum_11 : decode cX9_optimum 11 = .ok (.ireturn, 1) := by decide +kernel
theorem dX9_optima_0 : decode cX9_optima 0 = .ok (.aload_n 0, 1) := by decide +kernel
theorem dX9_optima_1 : decode cX9_optima 1 = .ok (.invokevirtual 286, 3) := by decide +kernel
theorem dX9_optima_4 : decode cX9_optima 4 = .ok (.aload_n 0, 1) := by decide +kernel
theorem dX9_optima_5 : decode cX9_optima 5 = .ok (.getfield 43, 3) := by decide +kernel
theorem dX9_optima_8 : decode cX9_optima 8 = .ok (.getfield 292, 3) := by decide +kernel
theorem dX9_optima_11 : decode cX9_optima 11 = .ok (.ireturn, 1) := by decide +kernel
theorem dX9_optimalValue_0 : decode cX9_optimalValue 0 = .ok (.aload_n 0, 1) := by decide +kernel
theorem dX9_optimalValue_1 : decode cX9_optimalValue 1 = .ok (.iload_n 1, 1) := by decide +kernel
theorem dX9_optimalValue_2 : decode cX9_optimalValue 2 = .ok (.invokevirtual 98, 3) := by decide +kernel
theorem dX9_optimalValue_5 : decode cX9_optimalValue 5 = .ok (.aload_n 0, 1) := by decide +kernel
theorem dX9_optimalValue_6 : decode cX9_optimalValue 6 = .ok (.invokevirtual 286, 3) := by decide +kernel
theorem dX9_optimalValue_9 : decode cX9_optimalValue 9 = .ok (.aload_n 0, 1) := by decide +kernel
theorem dX9_optimalValue_10 : decode cX9_optimalValue 10 = .ok (.getfield 43, 3) := by decide +kernel
theorem dX9_optimalValue_13 : decode cX9_optimalValue 13 = .ok (.getfield 295, 3) := by decide +kernel
theorem dX9_optimalValue_16 : decode cX9_optimalValue 16 = .ok (.iload_n 1, 1) := by decide +kernel
theorem dX9_optimalValue_17 : decode cX9_optimalValue 17 = .ok (.iaload, 1) := by decide +kernel
theorem dX9_optimalValue_18 : decode cX9_optimalValue 18 = .ok (.ireturn, 1) := by decide +kernel
theorem dX9_worst_0 : decode cX9_worst 0 = .ok (.aload_n 0, 1) := by decide +kernel
theorem dX9_worst_1 : decode cX9_worst 1 = .ok (.invokevirtual 286, 3) := by decide +kernel
theorem dX9_worst_4 : decode cX9_worst 4 = .ok (.aload_n 0, 1) := by decide +kernel
theorem dX9_worst_5 : decode cX9_worst 5 = .ok (.getfield 43, 3) := by decide +kernel
theorem dX9_worst_8 : decode cX9_worst 8 = .ok (.getfield 298, 3) := by decide +kernel
theorem dX9_worst_11 : decode cX9_worst 11 = .ok (.ireturn, 1) := by decide +kernel
theorem dX9_unavoidable_0 : decode cX9_unavoidable 0 = .ok (.aload_n 0, 1) := by decide +kernel
theorem dX9_unavoidable_1 : decode cX9_unavoidable 1 = .ok (.invokevirtual 286, 3) := by decide +kernel
theorem dX9_unavoidable_4 : decode cX9_unavoidable 4 = .ok (.aload_n 0, 1) := by decide +kernel
theorem dX9_unavoidable_5 : decode cX9_unavoidable 5 = .ok (.getfield 43, 3) := by decide +kernel
theorem dX9_unavoidable_8 : decode cX9_unavoidable 8 = .ok (.getfield 301, 3) := by decide +kernel
theorem dX9_unavoidable_11 : decode cX9_unavoidable 11 = .ok (.invokestatic 118, 3) := by decide +kernel
theorem dX9_unavoidable_14 : decode cX9_unavoidable 14 = .ok (.ireturn, 1) := by decide +kernel
theorem dX9_append_0 : decode cX9_append 0 = .ok (.iload_n 1, 1) := by decide +kernel
theorem dX9_append_1 : decode cX9_append 1 = .ok (.bipush 32, 2) := by decide +kernel
theorem dX9_append_3 : decode cX9_append 3 = .ok (.bipush 126, 2) := by decide +kernel
theorem dX9_append_5 : decode cX9_append 5 = .ok (.invokestatic 114, 3) := by decide +kernel
theorem dX9_append_8 : decode cX9_append 8 = .ok (.aload_n 0, 1) := by decide +kernel
theorem dX9_append_9 : decode cX9_append 9 = .ok (.getfield 50, 3) := by decide +kernel
theorem dX9_append_12 : decode cX9_append 12 = .ok (.getfield 304, 3) := by decide +kernel
theorem dX9_append_15 : decode cX9_append 15 = .ok (.bipush 60, 2) := by decide +kernel
theorem dX9_append_17 : decode cX9_append 17 = .ok (.if_icmp .lt 11, 3) := by decide +kernel
theorem dX9_append_20 : decode cX9_append 20 = .ok (.new 88, 3) := by decide +kernel
theorem dX9_append_23 : decode cX9_append 23 = .ok (.dup, 1) := by decide +kernel
theorem dX9_append_24 : decode cX9_append 24 = .ok (.invokespecial 90, 3) := by decide +kernel
theorem dX9_append_27 : decode cX9_append 27 = .ok (.athrow, 1) := by decide +kernel
theorem dX9_append_28 : decode cX9_append 28 = .ok (.aload_n 0, 1) := by decide +kernel
theorem dX9_append_29 : decode cX9_append 29 = .ok (.getfield 50, 3) := by decide +kernel
theorem dX9_append_32 : decode cX9_append 32 = .ok (.iload_n 1, 1) := by decide +kernel
theorem dX9_append_33 : decode cX9_append 33 = .ok (.invokevirtual 307, 3) := by decide +kernel
theorem dX9_append_36 : decode cX9_append 36 = .ok (.aload_n 0, 1) := by decide +kernel
theorem dX9_append_37 : decode cX9_append 37 = .ok (.getfield 50, 3) := by decide +kernel
theorem dX9_append_40 : decode cX9_append 40 = .ok (.getfield 304, 3) := by decide +kernel
theorem dX9_append_43 : decode cX9_append 43 = .ok (.ireturn, 1) := by decide +kernel
theorem dX9_read_0 : decode cX9_read 0 = .ok (.aload_n 0, 1) := by decide +kernel
theorem dX9_read_1 : decode cX9_read 1 = .ok (.getfield 50, 3) := by decide +kernel
theorem dX9_read_4 : decode cX9_read 4 = .ok (.invokevirtual 311, 3) := by decide +kernel
theorem dX9_read_7 : decode cX9_read 7 = .ok (.istore_n 1, 1) := by decide +kernel
theorem dX9_read_8 : decode cX9_read 8 = .ok (.aload_n 0, 1) := by decide +kernel
theorem dX9_read_9 : decode cX9_read 9 = .ok (.getfield 50, 3) := by decide +kernel
theorem dX9_read_12 : decode cX9_read 12 = .ok (.iconst 0, 1) := by decide +kernel
theorem dX9_read_13 : decode cX9_read 13 = .ok (.putfield 304, 3) := by decide +kernel
theorem dX9_read_16 : decode cX9_read 16 = .ok (.iload_n 1, 1) := by decide +kernel
theorem dX9_read_17 : decode cX9_read 17 = .ok (.ifCond .ne 22, 3) := by decide +kernel
theorem dX9_read_20 : decode cX9_read 20 = .ok (.aload_n 0, 1) := by decide +kernel
theorem dX9_read_21 : decode cX9_read 21 = .ok (.aload_n 0, 1) := by decide +kernel
theorem dX9_read_22 : decode cX9_read 22 = .ok (.getfield 50, 3) := by decide +kernel
theorem dX9_read_25 : decode cX9_read 25 = .ok (.getfield 315, 3) := by decide +kernel
theorem dX9_read_28 : decode cX9_read 28 = .ok (.putfield 65, 3) := by decide +kernel
theorem dX9_read_31 : decode cX9_read 31 = .ok (.new 128, 3) := by decide +kernel
theorem dX9_read_34 : decode cX9_read 34 = .ok (.dup, 1) := by decide +kernel
theorem dX9_read_35 : decode cX9_read 35 = .ok (.invokespecial 130, 3) := by decide +kernel
theorem dX9_read_38 : decode cX9_read 38 = .ok (.athrow, 1) := by decide +kernel
theorem dX9_read_39 : decode cX9_read 39 = .ok (.aload_n 0, 1) := by decide +kernel
theorem dX9_read_40 : decode cX9_read 40 = .ok (.getfield 50, 3) := by decide +kernel
theorem dX9_read_43 : decode cX9_read 43 = .ok (.aload_n 0, 1) := by decide +kernel
theorem dX9_read_44 : decode cX9_read 44 = .ok (.getfield 12, 3) := by decide +kernel
theorem dX9_read_47 : decode cX9_read 47 = .ok (.invokevirtual 318, 3) := by decide +kernel
theorem dX9_read_50 : decode cX9_read 50 = .ok (.ifCond .ne 11, 3) := by decide +kernel
theorem dX9_read_53 : decode cX9_read 53 = .ok (.new 88, 3) := by decide +kernel
theorem dX9_read_56 : decode cX9_read 56 = .ok (.dup, 1) := by decide +kernel
theorem dX9_read_57 : decode cX9_read 57 = .ok (.invokespecial 90, 3) := by decide +kernel
theorem dX9_read_60 : decode cX9_read 60 = .ok (.athrow, 1) := by decide +kernel
theorem dX9_read_61 : decode cX9_read 61 = .ok (.aload_n 0, 1) := by decide +kernel
theorem dX9_read_62 : decode cX9_read 62 = .ok (.getfield 22, 3) := by decide +kernel
theorem dX9_read_65 : decode cX9_read 65 = .ok (.aload_n 0, 1) := by decide +kernel
theorem dX9_read_66 : decode cX9_read 66 = .ok (.getfield 12, 3) := by decide +kernel
theorem dX9_read_69 : decode cX9_read 69 = .ok (.invokevirtual 91, 3) := by decide +kernel
theorem dX9_read_72 : decode cX9_read 72 = .ok (.aload_n 0, 1) := by decide +kernel
theorem dX9_read_73 : decode cX9_read 73 = .ok (.getfield 50, 3) := by decide +kernel
theorem dX9_read_76 : decode cX9_read 76 = .ok (.aload_n 0, 1) := by decide +kernel
theorem dX9_read_77 : decode cX9_read 77 = .ok (.getfield 12, 3) := by decide +kernel
theorem dX9_read_80 : decode cX9_read 80 = .ok (.invokevirtual 322, 3) := by decide +kernel
theorem dX9_read_83 : decode cX9_read 83 = .ok (.aload_n 0, 1) := by decide +kernel
theorem dX9_read_84 : decode cX9_read 84 = .ok (.invokevirtual 81, 3) := by decide +kernel
theorem dX9_read_87 : decode cX9_read 87 = .ok (.aload_n 0, 1) := by decide +kernel
theorem dX9_read_88 : decode cX9_read 88 = .ok (.getfield 50, 3) := by decide +kernel
theorem dX9_read_91 : decode cX9_read 91 = .ok (.getfield 325, 3) := by decide +kernel
theorem dX9_read_94 : decode cX9_read 94 = .ok (.ireturn, 1) := by decide +kernel
theorem dX9_errorPosition_0 : decode cX9_errorPosition 0 = .ok (.aload_n 0, 1) := by decide +kernel
theorem dX9_errorPosition_1 : decode cX9_errorPosition 1 = .ok (.getfield 65, 3) := by decide +kernel
theorem dX9_errorPosition_4 : decode cX9_errorPosition 4 = .ok (.iconst (-1), 1) := by decide +kernel
theorem dX9_errorPosition_5 : decode cX9_errorPosition 5 = .ok (.if_icmp .ne 11, 3) := by decide +kernel
theorem dX9_errorPosition_8 : decode cX9_errorPosition 8 = .ok (.new 182, 3) := by decide +kernel
theorem dX9_errorPosition_11 : decode cX9_errorPosition 11 = .ok (.dup, 1) := by decide +kernel
theorem dX9_errorPosition_12 : decode cX9_errorPosition 12 = .ok (.invokespecial 184, 3) := by decide +kernel
theorem dX9_errorPosition_15 : decode cX9_errorPosition 15 = .ok (.athrow, 1) := by decide +kernel
theorem dX9_errorPosition_16 : decode cX9_errorPosition 16 = .ok (.aload_n 0, 1) := by decide +kernel
theorem dX9_errorPosition_17 : decode cX9_errorPosition 17 = .ok (.getfield 65, 3) := by decide +kernel
theorem dX9_errorPosition_20 : decode cX9_errorPosition 20 = .ok (.ireturn, 1) := by decide +kernel
theorem dX9_describe_0 : decode cX9_describe 0 = .ok (.aload_n 0, 1) := by decide +kernel
theorem dX9_describe_1 : decode cX9_describe 1 = .ok (.iload_n 1, 1) := by decide +kernel
theorem dX9_describe_2 : decode cX9_describe 2 = .ok (.invokevirtual 138, 3) := by decide +kernel
theorem dX9_describe_5 : decode cX9_describe 5 = .ok (.aload_n 0, 1) := by decide +kernel
theorem dX9_describe_6 : decode cX9_describe 6 = .ok (.getfield 57, 3) := by decide +kernel
theorem dX9_describe_9 : decode cX9_describe 9 = .ok (.aload_n 0, 1) := by decide +kernel
theorem dX9_describe_10 : decode cX9_describe 10 = .ok (.getfield 12, 3) := by decide +kernel
theorem dX9_describe_13 : decode cX9_describe 13 = .ok (.iload_n 1, 1) := by decide +kernel
theorem dX9_describe_14 : decode cX9_describe 14 = .ok (.invokevirtual 328, 3) := by decide +kernel
theorem dX9_describe_17 : decode cX9_describe 17 = .ok (.iload_n 2, 1) := by decide +kernel
theorem dX9_describe_18 : decode cX9_describe 18 = .ok (.iconst (-1), 1) := by decide +kernel
theorem dX9_describe_19 : decode cX9_describe 19 = .ok (.if_icmp .ne 11, 3) := by decide +kernel
theorem dX9_describe_22 : decode cX9_describe 22 = .ok (.aload_n 0, 1) := by decide +kernel
theorem dX9_describe_23 : decode cX9_describe 23 = .ok (.getfield 57, 3) := by decide +kernel
theorem dX9_describe_26 : decode cX9_describe 26 = .ok (.getfield 331, 3) := by decide +kernel
theorem dX9_describe_29 : decode cX9_describe 29 = .ok (.ireturn, 1) := by decide +kernel
theorem dX9_describe_30 : decode cX9_describe 30 = .ok (.iload_n 2, 1) := by decide +kernel
theorem dX9_describe_31 : decode cX9_describe 31 = .ok (.ifCond .lt 14, 3) := by decide +kernel
theorem dX9_describe_34 : decode cX9_describe 34 = .ok (.iload_n 2, 1) := by decide +kernel
theorem dX9_describe_35 : decode cX9_describe 35 = .ok (.aload_n 0, 1) := by decide +kernel
theorem dX9_describe_36 : decode cX9_describe 36 = .ok (.getfield 57, 3) := by decide +kernel
theorem dX9_describe_39 : decode cX9_describe 39 = .ok (.getfield 331, 3) := by decide +kernel
theorem dX9_describe_42 : decode cX9_describe 42 = .ok (.if_icmp .lt 11, 3) := by decide +kernel
theorem dX9_describe_45 : decode cX9_describe 45 = .ok (.new 182, 3) := by decide +kernel
theorem dX9_describe_48 : decode cX9_describe 48 = .ok (.dup, 1) := by decide +kernel
theorem dX9_describe_49 : decode cX9_describe 49 = .ok (.invokespecial 184, 3) := by decide +kernel
theorem dX9_describe_52 : decode cX9_describe 52 = .ok (.athrow, 1) := by decide +kernel
theorem dX9_describe_53 : decode cX9_describe 53 = .ok (.aload_n 0, 1) := by decide +kernel
theorem dX9_describe_54 : decode cX9_describe 54 = .ok (.getfield 57, 3) := by decide +kernel
theorem dX9_describe_57 : decode cX9_describe 57 = .ok (.getfield 332, 3) := by decide +kernel
theorem dX9_describe_60 : decode cX9_describe 60 = .ok (.iload_n 2, 1) := by decide +kernel
theorem dX9_describe_61 : decode cX9_describe 61 = .ok (.caload, 1) := by decide +kernel
theorem dX9_describe_62 : decode cX9_describe 62 = .ok (.ireturn, 1) := by decide +kernel
theorem dX9_undo_0 : decode cX9_undo 0 = .ok (.aload_n 0, 1) := by decide +kernel
theorem dX9_undo_1 : decode cX9_undo 1 = .ok (.getfield 22, 3) := by decide +kernel
theorem dX9_undo_4 : decode cX9_undo 4 = .ok (.getfield 336, 3) := by decide +kernel
theorem dX9_undo_7 : decode cX9_undo 7 = .ok (.ifCond .ne 11, 3) := by decide +kernel
theorem dX9_undo_10 : decode cX9_undo 10 = .ok (.new 182, 3) := by decide +kernel
theorem dX9_undo_13 : decode cX9_undo 13 = .ok (.dup, 1) := by decide +kernel
theorem dX9_undo_14 : decode cX9_undo 14 = .ok (.invokespecial 184, 3) := by decide +kernel
theorem dX9_undo_17 : decode cX9_undo 17 = .ok (.athrow, 1) := by decide +kernel
theorem dX9_undo_18 : decode cX9_undo 18 = .ok (.aload_n 0, 1) := by decide +kernel
theorem dX9_undo_19 : decode cX9_undo 19 = .ok (.getfield 22, 3) := by decide +kernel
theorem dX9_undo_22 : decode cX9_undo 22 = .ok (.aload_n 0, 1) := by decide +kernel
theorem dX9_undo_23 : decode cX9_undo 23 = .ok (.getfield 12, 3) := by decide +kernel
theorem dX9_undo_26 : decode cX9_undo 26 = .ok (.invokevirtual 337, 3) := by decide +kernel
theorem dX9_undo_29 : decode cX9_undo 29 = .ok (.aload_n 0, 1) := by decide +kernel
theorem dX9_undo_30 : decode cX9_undo 30 = .ok (.invokevirtual 81, 3) := by decide +kernel
theorem dX9_undo_33 : decode cX9_undo 33 = .ok (.aload_n 0, 1) := by decide +kernel
theorem dX9_undo_34 : decode cX9_undo 34 = .ok (.getfield 22, 3) := by decide +kernel
theorem dX9_undo_37 : decode cX9_undo 37 = .ok (.getfield 336, 3) := by decide +kernel
theorem dX9_undo_40 : decode cX9_undo 40 = .ok (.ireturn, 1) := by decide +kernel
theorem dX9_save_0 : decode cX9_save 0 = .ok (.aload_n 0, 1) := by decide +kernel
theorem dX9_save_1 : decode cX9_save 1 = .ok (.getfield 16, 3) := by decide +kernel
theorem dX9_save_4 : decode cX9_save 4 = .ok (.aload_n 0, 1) := by decide +kernel
theorem dX9_save_5 : decode cX9_save 5 = .ok (.getfield 12, 3) := by decide +kernel
theorem dX9_save_8 : decode cX9_save 8 = .ok (.invokevirtual 340, 3) := by decide +kernel
theorem dX9_save_11 : decode cX9_save 11 = .ok (.aload_n 0, 1) := by decide +kernel
theorem dX9_save_12 : decode cX9_save 12 = .ok (.iconst 1, 1) := by decide +kernel
theorem dX9_save_13 : decode cX9_save 13 = .ok (.putfield 61, 3) := by decide +kernel
theorem dX9_save_16 : decode cX9_save 16 = .ok (.aload_n 0, 1) := by decide +kernel
theorem dX9_save_17 : decode cX9_save 17 = .ok (.getfield 16, 3) := by decide +kernel
theorem dX9_save_20 : decode cX9_save 20 = .ok (.getfield 69, 3) := by decide +kernel
theorem dX9_save_23 : decode cX9_save 23 = .ok (.ireturn, 1) := by decide +kernel
theorem dX9_restore_0 : decode cX9_restore 0 = .ok (.aload_n 0, 1) := by decide +kernel
theorem dX9_restore_1 : decode cX9_restore 1 = .ok (.getfield 61, 3) := by decide +kernel
theorem dX9_restore_4 : decode cX9_restore 4 = .ok (.ifCond .ne 11, 3) := by decide +kernel
theorem dX9_restore_7 : decode cX9_restore 7 = .ok (.new 88, 3) := by decide +kernel
theorem dX9_restore_10 : decode cX9_restore 10 = .ok (.dup, 1) := by decide +kernel
theorem dX9_restore_11 : decode cX9_restore 11 = .ok (.invokespecial 90, 3) := by decide +kernel
theorem dX9_restore_14 : decode cX9_restore 14 = .ok (.athrow, 1) := by decide +kernel
theorem dX9_restore_15 : decode cX9_restore 15 = .ok (.aload_n 0, 1) := by decide +kernel
theorem dX9_restore_16 : decode cX9_restore 16 = .ok (.getfield 12, 3) := by decide +kernel
theorem dX9_restore_19 : decode cX9_restore 19 = .ok (.aload_n 0, 1) := by decide +kernel
theorem dX9_restore_20 : decode cX9_restore 20 = .ok (.getfield 16, 3) := by decide +kernel
theorem dX9_restore_23 : decode cX9_restore 23 = .ok (.invokevirtual 340, 3) := by decide +kernel
theorem dX9_restore_26 : decode cX9_restore 26 = .ok (.aload_n 0, 1) := by decide +kernel
theorem dX9_restore_27 : decode cX9_restore 27 = .ok (.getfield 22, 3) := by decide +kernel
theorem dX9_restore_30 : decode cX9_restore 30 = .ok (.invokevirtual 75, 3) := by decide +kernel
theorem dX9_restore_33 : decode cX9_restore 33 = .ok (.aload_n 0, 1) := by decide +kernel
theorem dX9_restore_34 : decode cX9_restore 34 = .ok (.invokevirtual 81, 3) := by decide +kernel
theorem dX9_restore_37 : decode cX9_restore 37 = .ok (.aload_n 0, 1) := by decide +kernel
theorem dX9_restore_38 : decode cX9_restore 38 = .ok (.getfield 12, 3) := by decide +kernel
theorem dX9_restore_41 : decode cX9_restore 41 = .ok (.getfield 69, 3) := by decide +kernel
theorem dX9_restore_44 : decode cX9_restore 44 = .ok (.ireturn, 1) := by decide +kernel
theorem dX9_beginSearch_0 : decode cX9_beginSearch 0 = .ok (.aload_n 0, 1) := by decide +kernel
theorem dX9_beginSearch_1 : decode cX9_beginSearch 1 = .ok (.getfield 36, 3) := by decide +kernel
theorem dX9_beginSearch_4 : decode cX9_beginSearch 4 = .ok (.aload_n 0, 1) := by decide +kernel
theorem dX9_beginSearch_5 : decode cX9_beginSearch 5 = .ok (.getfield 12, 3) := by decide +kernel
theorem dX9_beginSearch_8 : decode cX9_beginSearch 8 = .ok (.invokevirtual 343, 3) := by decide +kernel
theorem dX9_beginSearch_11 : decode cX9_beginSearch 11 = .ok (.aload_n 0, 1) := by decide +kernel
theorem dX9_beginSearch_12 : decode cX9_beginSearch 12 = .ok (.getfield 43, 3) := by decide +kernel
theorem dX9_beginSearch_15 : decode cX9_beginSearch 15 = .ok (.iconst 0, 1) := by decide +kernel
theorem dX9_beginSearch_16 : decode cX9_beginSearch 16 = .ok (.putfield 346, 3) := by decide +kernel
theorem dX9_beginSearch_19 : decode cX9_beginSearch 19 = .ok (.return_, 1) := by decide +kernel
theorem dX9_exploreAll_0 : decode cX9_exploreAll 0 = .ok (.aload_n 0, 1) := by decide +kernel
theorem dX9_exploreAll_1 : decode cX9_exploreAll 1 = .ok (.getfield 12, 3) := by decide +kernel
theorem dX9_exploreAll_4 : decode cX9_exploreAll 4 = .ok (.invokevirtual 151, 3) := by decide +kernel
theorem dX9_exploreAll_7 : decode cX9_exploreAll 7 = .ok (.sipush 5000, 3) := by decide +kernel
theorem dX9_exploreAll_10 : decode cX9_exploreAll 10 = .ok (.if_icmp .le 11, 3) := by decide +kernel
theorem dX9_exploreAll_13 : decode cX9_exploreAll 13 = .ok (.new 88, 3) := by decide +kernel
theorem dX9_exploreAll_16 : decode cX9_exploreAll 16 = .ok (.dup, 1) := by decide +kernel
theorem dX9_exploreAll_17 : decode cX9_exploreAll 17 = .ok (.invokespecial 90, 3) := by decide +kernel
theorem dX9_exploreAll_20 : decode cX9_exploreAll 20 = .ok (.athrow, 1) := by decide +kernel
theorem dX9_exploreAll_21 : decode cX9_exploreAll 21 = .ok (.aload_n 0, 1) := by decide +kernel
theorem dX9_exploreAll_22 : decode cX9_exploreAll 22 = .ok (.getfield 43, 3) := by decide +kernel
theorem dX9_exploreAll_25 : decode cX9_exploreAll 25 = .ok (.getfield 346, 3) := by decide +kernel
theorem dX9_exploreAll_28 : decode cX9_exploreAll 28 = .ok (.ifCond .ne 14, 3) := by decide +kernel
theorem dX9_exploreAll_31 : decode cX9_exploreAll 31 = .ok (.aload_n 0, 1) := by decide +kernel
theorem dX9_exploreAll_32 : decode cX9_exploreAll 32 = .ok (.getfield 43, 3) := by decide +kernel
theorem dX9_exploreAll_35 : decode cX9_exploreAll 35 = .ok (.aload_n 0, 1) := by decide +kernel
theorem dX9_exploreAll_36 : decode cX9_exploreAll 36 = .ok (.getfield 12, 3) := by decide +kernel
theorem dX9_exploreAll_39 : decode cX9_exploreAll 39 = .ok (.invokevirtual 349, 3) := by decide +kernel
theorem dX9_exploreAll_42 : decode cX9_exploreAll 42 = .ok (.return_, 1) := by decide +kernel
theorem dX9_checkVariable_0 : decode cX9_checkVariable 0 = .ok (.iload_n 1, 1) := by decide +kernel
theorem dX9_checkVariable_1 : decode cX9_checkVariable 1 = .ok (.ifCond .lt 14, 3) := by decide +kernel
theorem dX9_checkVariable_4 : decode cX9_checkVariable 4 = .ok (.iload_n 1, 1) := by decide +kernel
theorem dX9_checkVariable_5 : decode cX9_checkVariable 5 = .ok (.aload_n 0, 1) := by decide +kernel
theorem dX9_checkVariable_6 : decode cX9_checkVariable 6 = .ok (.getfield 12, 3) := by decide +kernel
theorem dX9_checkVariable_9 : decode cX9_checkVariable 9 = .ok (.getfield 69, 3) := by decide +kernel
theorem dX9_checkVariable_12 : decode cX9_checkVariable 12 = .ok (.if_icmp .lt 11, 3) := by decide +kernel
theorem dX9_checkVariable_15 : decode cX9_checkVariable 15 = .ok (.new 222, 3) := by decide +kernel
theorem dX9_checkVariable_18 : decode cX9_checkVariable 18 = .ok (.dup, 1) := by decide +kernel
theorem dX9_checkVariable_19 : decode cX9_checkVariable 19 = .ok (.invokespecial 224, 3) := by decide +kernel
theorem dX9_checkVariable_22 : decode cX9_checkVariable 22 = .ok (.athrow, 1) := by decide +kernel
theorem dX9_checkVariable_23 : decode cX9_checkVariable 23 = .ok (.return_, 1) := by decide +kernel
theorem dX9_checkConstraint_0 : decode cX9_checkConstraint 0 = .ok (.iload_n 1, 1) := by decide +kernel
theorem dX9_checkConstraint_1 : decode cX9_checkConstraint 1 = .ok (.ifCond .lt 14, 3) := by decide +kernel
theorem dX9_checkConstraint_4 : decode cX9_checkConstraint 4 = .ok (.iload_n 1, 1) := by decide +kernel
theorem dX9_checkConstraint_5 : decode cX9_checkConstraint 5 = .ok (.aload_n 0, 1) := by decide +kernel
theorem dX9_checkConstraint_6 : decode cX9_checkConstraint 6 = .ok (.getfield 12, 3) := by decide +kernel
theorem dX9_checkConstraint_9 : decode cX9_checkConstraint 9 = .ok (.getfield 131, 3) := by decide +kernel
theorem dX9_checkConstraint_12 : decode cX9_checkConstraint 12 = .ok (.if_icmp .lt 11, 3) := by decide +kernel
theorem dX9_checkConstraint_15 : decode cX9_checkConstraint 15 = .ok (.new 222, 3) := by decide +kernel
theorem dX9_checkConstraint_18 : decode cX9_checkConstraint 18 = .ok (.dup, 1) := by decide +kernel
theorem dX9_checkConstraint_19 : decode cX9_checkConstraint 19 = .ok (.invokespecial 224, 3) := by decide +kernel
theorem dX9_checkConstraint_22 : decode cX9_checkConstraint 22 = .ok (.athrow, 1) := by decide +kernel
theorem dX9_checkConstraint_23 : decode cX9_checkConstraint 23 = .ok (.return_, 1) := by decide +kernel
theorem dX9_checkSize_0 : decode cX9_checkSize 0 = .ok (.iload_n 0, 1) := by decide +kernel
theorem dX9_checkSize_1 : decode cX9_checkSize 1 = .ok (.iconst 2, 1) := by decide +kernel
theorem dX9_checkSize_2 : decode cX9_checkSize 2 = .ok (.bipush 8, 2) := by decide +kernel
theorem dX9_checkSize_4 : decode cX9_checkSize 4 = .ok (.invokestatic 114, 3) := by decide +kernel
theorem dX9_checkSize_7 : decode cX9_checkSize 7 = .ok (.return_, 1) := by decide +kernel
theorem dX9_checkRange_0 : decode cX9_checkRange 0 = .ok (.iload_n 0, 1) := by decide +kernel
theorem dX9_checkRange_1 : decode cX9_checkRange 1 = .ok (.iload_n 1, 1) := by decide +kernel
theorem dX9_checkRange_2 : decode cX9_checkRange 2 = .ok (.if_icmp .lt 8, 3) := by decide +kernel
theorem dX9_checkRange_5 : decode cX9_checkRange 5 = .ok (.iload_n 0, 1) := by decide +kernel
theorem dX9_checkRange_6 : decode cX9_checkRange 6 = .ok (.iload_n 2, 1) := by decide +kernel
theorem dX9_checkRange_7 : decode cX9_checkRange 7 = .ok (.if_icmp .le 11, 3) := by decide +kernel
theorem dX9_checkRange_10 : decode cX9_checkRange 10 = .ok (.new 128, 3) := by decide +kernel
theorem dX9_checkRange_13 : decode cX9_checkRange 13 = .ok (.dup, 1) := by decide +kernel
theorem dX9_checkRange_14 : decode cX9_checkRange 14 = .ok (.invokespecial 130, 3) := by decide +kernel
theorem dX9_checkRange_17 : decode cX9_checkRange 17 = .ok (.athrow, 1) := by decide +kernel
theorem dX9_checkRange_18 : decode cX9_checkRange 18 = .ok (.return_, 1) := by decide +kernel
theorem dX9_areMembers_0 : decode cX9_areMembers 0 = .ok (.iload_n 0, 1) := by decide +kernel
theorem dX9_areMembers_1 : decode cX9_areMembers 1 = .ok (.iload_n 1, 1) := by decide +kernel
theorem dX9_areMembers_2 : decode cX9_areMembers 2 = .ok (.iushr, 1) := by decide +kernel
theorem dX9_areMembers_3 : decode cX9_areMembers 3 = .ok (.ifCond .ne 7, 3) := by decide +kernel
theorem dX9_areMembers_6 : decode cX9_areMembers 6 = .ok (.iconst 1, 1) := by decide +kernel
theorem dX9_areMembers_7 : decode cX9_areMembers 7 = .ok (.goto 4, 3) := by decide +kernel
theorem dX9_areMembers_10 : decode cX9_areMembers 10 = .ok (.iconst 0, 1) := by decide +kernel
theorem dX9_areMembers_11 : decode cX9_areMembers 11 = .ok (.ireturn, 1) := by decide +kernel
theorem dJx00060_init_a7421_0 : decode cJx00060_init_a7421 0 = .ok (.aload_n 0, 1) := by decide +kernel
theorem dJx00060_init_a7421_1 : decode cJx00060_init_a7421 1 = .ok (.aload_n 1, 1) := by decide +kernel
theorem dJx00060_init_a7421_2 : decode cJx00060_init_a7421 2 = .ok (.invokespecial 7, 3) := by decide +kernel
theorem dJx00060_init_a7421_5 : decode cJx00060_init_a7421 5 = .ok (.return_, 1) := by decide +kernel
theorem dJ6_bitCount_0f7a4_0 : decode cJ6_bitCount_0f7a4 0 = .ok (.iload_n 0, 1) := by decide +kernel
theorem dJ6_bitCount_0f7a4_1 : decode cJ6_bitCount_0f7a4 1 = .ok (.iload_n 0, 1) := by decide +kernel
theorem dJ6_bitCount_0f7a4_2 : decode cJ6_bitCount_0f7a4 2 = .ok (.iconst 1, 1) := by decide +kernel
theorem dJ6_bitCount_0f7a4_3 : decode cJ6_bitCount_0f7a4 3 = .ok (.iushr, 1) := by decide +kernel
theorem dJ6_bitCount_0f7a4_4 : decode cJ6_bitCount_0f7a4 4 = .ok (.ldc_w 265, 3) := by decide +kernel
theorem dJ6_bitCount_0f7a4_7 : decode cJ6_bitCount_0f7a4 7 = .ok (.iand, 1) := by decide +kernel
theorem dJ6_bitCount_0f7a4_8 : decode cJ6_bitCount_0f7a4 8 = .ok (.isub, 1) := by decide +kernel
theorem dJ6_bitCount_0f7a4_9 : decode cJ6_bitCount_0f7a4 9 = .ok (.istore_n 0, 1) := by decide +kernel
theorem dJ6_bitCount_0f7a4_10 : decode cJ6_bitCount_0f7a4 10 = .ok (.iload_n 0, 1) := by decide +kernel
theorem dJ6_bitCount_0f7a4_11 : decode cJ6_bitCount_0f7a4 11 = .ok (.ldc_w 266, 3) := by decide +kernel
theorem dJ6_bitCount_0f7a4_14 : decode cJ6_bitCount_0f7a4 14 = .ok (.iand, 1) := by decide +kernel
theorem dJ6_bitCount_0f7a4_15 : decode cJ6_bitCount_0f7a4 15 = .ok (.iload_n 0, 1) := by decide +kernel
theorem dJ6_bitCount_0f7a4_16 : decode cJ6_bitCount_0f7a4 16 = .ok (.iconst 2, 1) := by decide +kernel
theorem dJ6_bitCount_0f7a4_17 : decode cJ6_bitCount_0f7a4 17 = .ok (.iushr, 1) := by decide +kernel
theorem dJ6_bitCount_0f7a4_18 : decode cJ6_bitCount_0f7a4 18 = .ok (.ldc_w 266, 3) := by decide +kernel
theorem dJ6_bitCount_0f7a4_21 : decode cJ6_bitCount_0f7a4 21 = .ok (.iand, 1) := by decide +kernel
theorem dJ6_bitCount_0f7a4_22 : decode cJ6_bitCount_0f7a4 22 = .ok (.iadd, 1) := by decide +kernel
theorem dJ6_bitCount_0f7a4_23 : decode cJ6_bitCount_0f7a4 23 = .ok (.istore_n 0, 1) := by decide +kernel
theorem dJ6_bitCount_0f7a4_24 : decode cJ6_bitCount_0f7a4 24 = .ok (.iload_n 0, 1) := by decide +kernel
theorem dJ6_bitCount_0f7a4_25 : decode cJ6_bitCount_0f7a4 25 = .ok (.iload_n 0, 1) := by decide +kernel
theorem dJ6_bitCount_0f7a4_26 : decode cJ6_bitCount_0f7a4 26 = .ok (.iconst 4, 1) := by decide +kernel
theorem dJ6_bitCount_0f7a4_27 : decode cJ6_bitCount_0f7a4 27 = .ok (.iushr, 1) := by decide +kernel
theorem dJ6_bitCount_0f7a4_28 : decode cJ6_bitCount_0f7a4 28 = .ok (.iadd, 1) := by decide +kernel
theorem dJ6_bitCount_0f7a4_29 : decode cJ6_bitCount_0f7a4 29 = .ok (.ldc_w 267, 3) := by decide +kernel
theorem dJ6_bitCount_0f7a4_32 : decode cJ6_bitCount_0f7a4 32 = .ok (.iand, 1) := by decide +kernel
theorem dJ6_bitCount_0f7a4_33 : decode cJ6_bitCount_0f7a4 33 = .ok (.istore_n 0, 1) := by decide +kernel
theorem dJ6_bitCount_0f7a4_34 : decode cJ6_bitCount_0f7a4 34 = .ok (.iload_n 0, 1) := by decide +kernel
theorem dJ6_bitCount_0f7a4_35 : decode cJ6_bitCount_0f7a4 35 = .ok (.iload_n 0, 1) := by decide +kernel
theorem dJ6_bitCount_0f7a4_36 : decode cJ6_bitCount_0f7a4 36 = .ok (.bipush 8, 2) := by decide +kernel
theorem dJ6_bitCount_0f7a4_38 : decode cJ6_bitCount_0f7a4 38 = .ok (.iushr, 1) := by decide +kernel
theorem dJ6_bitCount_0f7a4_39 : decode cJ6_bitCount_0f7a4 39 = .ok (.iadd, 1) := by decide +kernel
theorem dJ6_bitCount_0f7a4_40 : decode cJ6_bitCount_0f7a4 40 = .ok (.istore_n 0, 1) := by decide +kernel
theorem dJ6_bitCount_0f7a4_41 : decode cJ6_bitCount_0f7a4 41 = .ok (.iload_n 0, 1) := by decide +kernel
theorem dJ6_bitCount_0f7a4_42 : decode cJ6_bitCount_0f7a4 42 = .ok (.iload_n 0, 1) := by decide +kernel
theorem dJ6_bitCount_0f7a4_43 : decode cJ6_bitCount_0f7a4 43 = .ok (.bipush 16, 2) := by decide +kernel
theorem dJ6_bitCount_0f7a4_45 : decode cJ6_bitCount_0f7a4 45 = .ok (.iushr, 1) := by decide +kernel
theorem dJ6_bitCount_0f7a4_46 : decode cJ6_bitCount_0f7a4 46 = .ok (.iadd, 1) := by decide +kernel
theorem dJ6_bitCount_0f7a4_47 : decode cJ6_bitCount_0f7a4 47 = .ok (.istore_n 0, 1) := by decide +kernel
theorem dJ6_bitCount_0f7a4_48 : decode cJ6_bitCount_0f7a4 48 = .ok (.iload_n 0, 1) := by decide +kernel
theorem dJ6_bitCount_0f7a4_49 : decode cJ6_bitCount_0f7a4 49 = .ok (.bipush 63, 2) := by decide +kernel
theorem dJ6_bitCount_0f7a4_51 : decode cJ6_bitCount_0f7a4 51 = .ok (.iand, 1) := by decide +kernel
theorem dJ6_bitCount_0f7a4_52 : decode cJ6_bitCount_0f7a4 52 = .ok (.ireturn, 1) := by decide +kernel
theorem dJ9_abs_0f7a4_0 : decode cJ9_abs_0f7a4 0 = .ok (.iload_n 0, 1) := by decide +kernel
theorem dJ9_abs_0f7a4_1 : decode cJ9_abs_0f7a4 1 = .ok (.ifCond .ge 8, 3) := by decide +kernel
theorem dJ9_abs_0f7a4_4 : decode cJ9_abs_0f7a4 4 = .ok (.iload_n 0, 1) := by decide +kernel
theorem dJ9_abs_0f7a4_5 : decode cJ9_abs_0f7a4 5 = .ok (.ineg, 1) := by decide +kernel
theorem dJ9_abs_0f7a4_6 : decode cJ9_abs_0f7a4 6 = .ok (.goto 4, 3) := by decide +kernel
theorem dJ9_abs_0f7a4_9 : decode cJ9_abs_0f7a4 9 = .ok (.iload_n 0, 1) := by decide +kernel
theorem dJ9_abs_0f7a4_10 : decode cJ9_abs_0f7a4 10 = .ok (.ireturn, 1) := by decide +kernel
theorem dJ9_max_7cf53_0 : decode cJ9_max_7cf53 0 = .ok (.iload_n 0, 1) := by decide +kernel
theorem dJ9_max_7cf53_1 : decode cJ9_max_7cf53 1 = .ok (.iload_n 1, 1) := by decide +kernel
theorem dJ9_max_7cf53_2 : decode cJ9_max_7cf53 2 = .ok (.if_icmp .lt 7, 3) := by decide +kernel
theorem dJ9_max_7cf53_5 : decode cJ9_max_7cf53 5 = .ok (.iload_n 0, 1) := by decide +kernel
theorem dJ9_max_7cf53_6 : decode cJ9_max_7cf53 6 = .ok (.goto 4, 3) := by decide +kernel
theorem dJ9_max_7cf53_9 : decode cJ9_max_7cf53 9 = .ok (.iload_n 1, 1) := by decide +kernel
theorem dJ9_max_7cf53_10 : decode cJ9_max_7cf53 10 = .ok (.ireturn, 1) := by decide +kernel
theorem dJ9_min_7cf53_0 : decode cJ9_min_7cf53 0 = .ok (.iload_n 0, 1) := by decide +kernel
theorem dJ9_min_7cf53_1 : decode cJ9_min_7cf53 1 = .ok (.iload_n 1, 1) := by decide +kernel
theorem dJ9_min_7cf53_2 : decode cJ9_min_7cf53 2 = .ok (.if_icmp .gt 7, 3) := by decide +kernel
theorem dJ9_min_7cf53_5 : decode cJ9_min_7cf53 5 = .ok (.iload_n 0, 1) := by decide +kernel
theorem dJ9_min_7cf53_6 : decode cJ9_min_7cf53 6 = .ok (.goto 4, 3) := by decide +kernel
theorem dJ9_min_7cf53_9 : decode cJ9_min_7cf53 9 = .ok (.iload_n 1, 1) := by decide +kernel
theorem dJ9_min_7cf53_10 : decode cJ9_min_7cf53 10 = .ok (.ireturn, 1) := by decide +kernel
theorem dJ7_fill_53178_0 : decode cJ7_fill_53178 0 = .ok (.iconst 0, 1) := by decide +kernel
theorem dJ7_fill_53178_1 : decode cJ7_fill_53178 1 = .ok (.istore_n 2, 1) := by decide +kernel
theorem dJ7_fill_53178_2 : decode cJ7_fill_53178 2 = .ok (.aload_n 0, 1) := by decide +kernel
theorem dJ7_fill_53178_3 : decode cJ7_fill_53178 3 = .ok (.arraylength, 1) := by decide +kernel
theorem dJ7_fill_53178_4 : decode cJ7_fill_53178 4 = .ok (.istore_n 3, 1) := by decide +kernel
theorem dJ7_fill_53178_5 : decode cJ7_fill_53178 5 = .ok (.iload_n 2, 1) := by decide +kernel
theorem dJ7_fill_53178_6 : decode cJ7_fill_53178 6 = .ok (.iload_n 3, 1) := by decide +kernel
theorem dJ7_fill_53178_7 : decode cJ7_fill_53178 7 = .ok (.if_icmp .ge 13, 3) := by decide +kernel
theorem dJ7_fill_53178_10 : decode cJ7_fill_53178 10 = .ok (.aload_n 0, 1) := by decide +kernel
theorem dJ7_fill_53178_11 : decode cJ7_fill_53178 11 = .ok (.iload_n 2, 1) := by decide +kernel
theorem dJ7_fill_53178_12 : decode cJ7_fill_53178 12 = .ok (.iload_n 1, 1) := by decide +kernel
theorem dJ7_fill_53178_13 : decode cJ7_fill_53178 13 = .ok (.iastore, 1) := by decide +kernel
theorem dJ7_fill_53178_14 : decode cJ7_fill_53178 14 = .ok (.iinc 2 1, 3) := by decide +kernel
theorem dJ7_fill_53178_17 : decode cJ7_fill_53178 17 = .ok (.goto (-12), 3) := by decide +kernel
theorem dJ7_fill_53178_20 : decode cJ7_fill_53178 20 = .ok (.return_, 1) := by decide +kernel
