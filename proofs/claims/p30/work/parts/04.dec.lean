theorem dX0_init_0 : decode cX0_init 0 = .ok (.aload_n 0, 1) := by decide +kernel
theorem dX0_init_1 : decode cX0_init 1 = .ok (.invokespecial 3, 3) := by decide +kernel
theorem dX0_init_4 : decode cX0_init 4 = .ok (.return_, 1) := by decide +kernel
theorem dX0_begin_0 : decode cX0_begin 0 = .ok (.aload_n 0, 1) := by decide +kernel
theorem dX0_begin_1 : decode cX0_begin 1 = .ok (.iload_n 1, 1) := by decide +kernel
theorem dX0_begin_2 : decode cX0_begin 2 = .ok (.putfield 9, 3) := by decide +kernel
theorem dX0_begin_5 : decode cX0_begin 5 = .ok (.aload_n 0, 1) := by decide +kernel
theorem dX0_begin_6 : decode cX0_begin 6 = .ok (.iload_n 2, 1) := by decide +kernel
theorem dX0_begin_7 : decode cX0_begin 7 = .ok (.putfield 15, 3) := by decide +kernel
theorem dX0_begin_10 : decode cX0_begin 10 = .ok (.aload_n 0, 1) := by decide +kernel
theorem dX0_begin_11 : decode cX0_begin 11 = .ok (.iload_n 3, 1) := by decide +kernel
theorem dX0_begin_12 : decode cX0_begin 12 = .ok (.putfield 18, 3) := by decide +kernel
theorem dX0_begin_15 : decode cX0_begin 15 = .ok (.aload_n 0, 1) := by decide +kernel
theorem dX0_begin_16 : decode cX0_begin 16 = .ok (.iconst 0, 1) := by decide +kernel
theorem dX0_begin_17 : decode cX0_begin 17 = .ok (.putfield 21, 3) := by decide +kernel
theorem dX0_begin_20 : decode cX0_begin 20 = .ok (.aload_n 0, 1) := by decide +kernel
theorem dX0_begin_21 : decode cX0_begin 21 = .ok (.iconst 0, 1) := by decide +kernel
theorem dX0_begin_22 : decode cX0_begin 22 = .ok (.putfield 24, 3) := by decide +kernel
theorem dX0_begin_25 : decode cX0_begin 25 = .ok (.return_, 1) := by decide +kernel
theorem dX0_copyFrom_0 : decode cX0_copyFrom 0 = .ok (.aload_n 0, 1) := by decide +kernel
theorem dX0_copyFrom_1 : decode cX0_copyFrom 1 = .ok (.aload_n 1, 1) := by decide +kernel
theorem dX0_copyFrom_2 : decode cX0_copyFrom 2 = .ok (.getfield 9, 3) := by decide +kernel
theorem dX0_copyFrom_5 : decode cX0_copyFrom 5 = .ok (.putfield 9, 3) := by decide +kernel
theorem dX0_copyFrom_8 : decode cX0_copyFrom 8 = .ok (.aload_n 0, 1) := by decide +kernel
theorem dX0_copyFrom_9 : decode cX0_copyFrom 9 = .ok (.aload_n 1, 1) := by decide +kernel
theorem dX0_copyFrom_10 : decode cX0_copyFrom 10 = .ok (.getfield 15, 3) := by decide +kernel
theorem dX0_copyFrom_13 : decode cX0_copyFrom 13 = .ok (.putfield 15, 3) := by decide +kernel
theorem dX0_copyFrom_16 : decode cX0_copyFrom 16 = .ok (.aload_n 0, 1) := by decide +kernel
theorem dX0_copyFrom_17 : decode cX0_copyFrom 17 = .ok (.aload_n 1, 1) := by decide +kernel
theorem dX0_copyFrom_18 : decode cX0_copyFrom 18 = .ok (.getfield 18, 3) := by decide +kernel
theorem dX0_copyFrom_21 : decode cX0_copyFrom 21 = .ok (.putfield 18, 3) := by decide +kernel
theorem dX0_copyFrom_24 : decode cX0_copyFrom 24 = .ok (.aload_n 0, 1) := by decide +kernel
theorem dX0_copyFrom_25 : decode cX0_copyFrom 25 = .ok (.aload_n 1, 1) := by decide +kernel
theorem dX0_copyFrom_26 : decode cX0_copyFrom 26 = .ok (.getfield 21, 3) := by decide +kernel
theorem dX0_copyFrom_29 : decode cX0_copyFrom 29 = .ok (.putfield 21, 3) := by decide +kernel
theorem dX0_copyFrom_32 : decode cX0_copyFrom 32 = .ok (.aload_n 0, 1) := by decide +kernel
theorem dX0_copyFrom_33 : decode cX0_copyFrom 33 = .ok (.aload_n 1, 1) := by decide +kernel
theorem dX0_copyFrom_34 : decode cX0_copyFrom 34 = .ok (.getfield 24, 3) := by decide +kernel
theorem dX0_copyFrom_37 : decode cX0_copyFrom 37 = .ok (.putfield 24, 3) := by decide +kernel
theorem dX0_copyFrom_40 : decode cX0_copyFrom 40 = .ok (.return_, 1) := by decide +kernel
theorem dX0_covers_0 : decode cX0_covers 0 = .ok (.iload_n 1, 1) := by decide +kernel
theorem dX0_covers_1 : decode cX0_covers 1 = .ok (.aload_n 0, 1) := by decide +kernel
theorem dX0_covers_2 : decode cX0_covers 2 = .ok (.getfield 9, 3) := by decide +kernel
theorem dX0_covers_5 : decode cX0_covers 5 = .ok (.if_icmp .lt 20, 3) := by decide +kernel
theorem dX0_covers_8 : decode cX0_covers 8 = .ok (.iload_n 1, 1) := by decide +kernel
theorem dX0_covers_9 : decode cX0_covers 9 = .ok (.aload_n 0, 1) := by decide +kernel
theorem dX0_covers_10 : decode cX0_covers 10 = .ok (.getfield 9, 3) := by decide +kernel
theorem dX0_covers_13 : decode cX0_covers 13 = .ok (.aload_n 0, 1) := by decide +kernel
theorem dX0_covers_14 : decode cX0_covers 14 = .ok (.getfield 15, 3) := by decide +kernel
theorem dX0_covers_17 : decode cX0_covers 17 = .ok (.iadd, 1) := by decide +kernel
theorem dX0_covers_18 : decode cX0_covers 18 = .ok (.if_icmp .ge 7, 3) := by decide +kernel
theorem dX0_covers_21 : decode cX0_covers 21 = .ok (.iconst 1, 1) := by decide +kernel
theorem dX0_covers_22 : decode cX0_covers 22 = .ok (.goto 4, 3) := by decide +kernel
theorem dX0_covers_25 : decode cX0_covers 25 = .ok (.iconst 0, 1) := by decide +kernel
theorem dX0_covers_26 : decode cX0_covers 26 = .ok (.ireturn, 1) := by decide +kernel
theorem dX0_takes_0 : decode cX0_takes 0 = .ok (.aload_n 0, 1) := by decide +kernel
theorem dX0_takes_1 : decode cX0_takes 1 = .ok (.getfield 21, 3) := by decide +kernel
theorem dX0_takes_4 : decode cX0_takes 4 = .ok (.aload_n 0, 1) := by decide +kernel
theorem dX0_takes_5 : decode cX0_takes 5 = .ok (.getfield 18, 3) := by decide +kernel
theorem dX0_takes_8 : decode cX0_takes 8 = .ok (.if_icmp .lt 5, 3) := by decide +kernel
theorem dX0_takes_11 : decode cX0_takes 11 = .ok (.iconst 0, 1) := by decide +kernel
theorem dX0_takes_12 : decode cX0_takes 12 = .ok (.ireturn, 1) := by decide +kernel
theorem dX0_takes_13 : decode cX0_takes 13 = .ok (.aload_n 0, 1) := by decide +kernel
theorem dX0_takes_14 : decode cX0_takes 14 = .ok (.dup, 1) := by decide +kernel
theorem dX0_takes_15 : decode cX0_takes 15 = .ok (.getfield 21, 3) := by decide +kernel
theorem dX0_takes_18 : decode cX0_takes 18 = .ok (.iconst 1, 1) := by decide +kernel
theorem dX0_takes_19 : decode cX0_takes 19 = .ok (.iadd, 1) := by decide +kernel
theorem dX0_takes_20 : decode cX0_takes 20 = .ok (.putfield 21, 3) := by decide +kernel
theorem dX0_takes_23 : decode cX0_takes 23 = .ok (.aload_n 0, 1) := by decide +kernel
theorem dX0_takes_24 : decode cX0_takes 24 = .ok (.dup, 1) := by decide +kernel
theorem dX0_takes_25 : decode cX0_takes 25 = .ok (.getfield 24, 3) := by decide +kernel
theorem dX0_takes_28 : decode cX0_takes 28 = .ok (.iconst 1, 1) := by decide +kernel
theorem dX0_takes_29 : decode cX0_takes 29 = .ok (.iadd, 1) := by decide +kernel
theorem dX0_takes_30 : decode cX0_takes 30 = .ok (.putfield 24, 3) := by decide +kernel
theorem dX0_takes_33 : decode cX0_takes 33 = .ok (.iconst 1, 1) := by decide +kernel
theorem dX0_takes_34 : decode cX0_takes 34 = .ok (.ireturn, 1) := by decide +kernel
theorem dX0_property_0 : decode cX0_property 0 = .ok (.iload_n 1, 1) := by decide +kernel
theorem dX0_property_1 : decode cX0_property 1 = .ok (.tableswitch 60 0 4 #[35, 40, 45, 50, 55], 35) := by decide +kernel
theorem dX0_property_36 : decode cX0_property 36 = .ok (.aload_n 0, 1) := by decide +kernel
theorem dX0_property_37 : decode cX0_property 37 = .ok (.getfield 9, 3) := by decide +kernel
theorem dX0_property_40 : decode cX0_property 40 = .ok (.ireturn, 1) := by decide +kernel
theorem dX0_property_41 : decode cX0_property 41 = .ok (.aload_n 0, 1) := by decide +kernel
theorem dX0_property_42 : decode cX0_property 42 = .ok (.getfield 15, 3) := by decide +kernel
theorem dX0_property_45 : decode cX0_property 45 = .ok (.ireturn, 1) := by decide +kernel
theorem dX0_property_46 : decode cX0_property 46 = .ok (.aload_n 0, 1) := by decide +kernel
theorem dX0_property_47 : decode cX0_property 47 = .ok (.getfield 18, 3) := by decide +kernel
theorem dX0_property_50 : decode cX0_property 50 = .ok (.ireturn, 1) := by decide +kernel
theorem dX0_property_51 : decode cX0_property 51 = .ok (.aload_n 0, 1) := by decide +kernel
theorem dX0_property_52 : decode cX0_property 52 = .ok (.getfield 21, 3) := by decide +kernel
theorem dX0_property_55 : decode cX0_property 55 = .ok (.ireturn, 1) := by decide +kernel
theorem dX0_property_56 : decode cX0_property 56 = .ok (.aload_n 0, 1) := by decide +kernel
theorem dX0_property_57 : decode cX0_property 57 = .ok (.getfield 24, 3) := by decide +kernel
theorem dX0_property_60 : decode cX0_property 60 = .ok (.ireturn, 1) := by decide +kernel
theorem dX0_property_61 : decode cX0_property 61 = .ok (.iconst (-1), 1) := by decide +kernel
theorem dX0_property_62 : decode cX0_property 62 = .ok (.ireturn, 1) := by decide +kernel
theorem dX1_init_0 : decode cX1_init 0 = .ok (.aload_n 0, 1) := by decide +kernel
theorem dX1_init_1 : decode cX1_init 1 = .ok (.invokespecial 3, 3) := by decide +kernel
theorem dX1_init_4 : decode cX1_init 4 = .ok (.aload_n 0, 1) := by decide +kernel
theorem dX1_init_5 : decode cX1_init 5 = .ok (.sipush 3000, 3) := by decide +kernel
theorem dX1_init_8 : decode cX1_init 8 = .ok (.newarray .int, 2) := by decide +kernel
theorem dX1_init_10 : decode cX1_init 10 = .ok (.putfield 9, 3) := by decide +kernel
theorem dX1_init_13 : decode cX1_init 13 = .ok (.return_, 1) := by decide +kernel
theorem dX1_keep_0 : decode cX1_keep 0 = .ok (.aload_n 1, 1) := by decide +kernel
theorem dX1_keep_1 : decode cX1_keep 1 = .ok (.getfield 15, 3) := by decide +kernel
theorem dX1_keep_4 : decode cX1_keep 4 = .ok (.ifCond .lt 13, 3) := by decide +kernel
theorem dX1_keep_7 : decode cX1_keep 7 = .ok (.aload_n 1, 1) := by decide +kernel
theorem dX1_keep_8 : decode cX1_keep 8 = .ok (.getfield 15, 3) := by decide +kernel
theorem dX1_keep_11 : decode cX1_keep 11 = .ok (.sipush 300, 3) := by decide +kernel
theorem dX1_keep_14 : decode cX1_keep 14 = .ok (.if_icmp .lt 4, 3) := by decide +kernel
theorem dX1_keep_17 : decode cX1_keep 17 = .ok (.return_, 1) := by decide +kernel
theorem dX1_keep_18 : decode cX1_keep 18 = .ok (.aload_n 1, 1) := by decide +kernel
theorem dX1_keep_19 : decode cX1_keep 19 = .ok (.getfield 15, 3) := by decide +kernel
theorem dX1_keep_22 : decode cX1_keep 22 = .ok (.bipush 10, 2) := by decide +kernel
theorem dX1_keep_24 : decode cX1_keep 24 = .ok (.imul, 1) := by decide +kernel
theorem dX1_keep_25 : decode cX1_keep 25 = .ok (.istore_n 2, 1) := by decide +kernel
theorem dX1_keep_26 : decode cX1_keep 26 = .ok (.iconst 0, 1) := by decide +kernel
theorem dX1_keep_27 : decode cX1_keep 27 = .ok (.istore_n 3, 1) := by decide +kernel
theorem dX1_keep_28 : decode cX1_keep 28 = .ok (.iload_n 3, 1) := by decide +kernel
theorem dX1_keep_29 : decode cX1_keep 29 = .ok (.bipush 10, 2) := by decide +kernel
theorem dX1_keep_31 : decode cX1_keep 31 = .ok (.if_icmp .ge 22, 3) := by decide +kernel
theorem dX1_keep_34 : decode cX1_keep 34 = .ok (.aload_n 0, 1) := by decide +kernel
theorem dX1_keep_35 : decode cX1_keep 35 = .ok (.getfield 9, 3) := by decide +kernel
theorem dX1_keep_38 : decode cX1_keep 38 = .ok (.iload_n 2, 1) := by decide +kernel
theorem dX1_keep_39 : decode cX1_keep 39 = .ok (.iload_n 3, 1) := by decide +kernel
theorem dX1_keep_40 : decode cX1_keep 40 = .ok (.iadd, 1) := by decide +kernel
theorem dX1_keep_41 : decode cX1_keep 41 = .ok (.aload_n 1, 1) := by decide +kernel
theorem dX1_keep_42 : decode cX1_keep 42 = .ok (.iload_n 3, 1) := by decide +kernel
theorem dX1_keep_43 : decode cX1_keep 43 = .ok (.invokevirtual 21, 3) := by decide +kernel
theorem dX1_keep_46 : decode cX1_keep 46 = .ok (.iastore, 1) := by decide +kernel
theorem dX1_keep_47 : decode cX1_keep 47 = .ok (.iinc 3 1, 3) := by decide +kernel
theorem dX1_keep_50 : decode cX1_keep 50 = .ok (.goto (-22), 3) := by decide +kernel
theorem dX1_keep_53 : decode cX1_keep 53 = .ok (.return_, 1) := by decide +kernel
theorem dX1_propertyOf_0 : decode cX1_propertyOf 0 = .ok (.iload_n 1, 1) := by decide +kernel
theorem dX1_propertyOf_1 : decode cX1_propertyOf 1 = .ok (.ifCond .lt 20, 3) := by decide +kernel
theorem dX1_propertyOf_4 : decode cX1_propertyOf 4 = .ok (.iload_n 1, 1) := by decide +kernel
theorem dX1_propertyOf_5 : decode cX1_propertyOf 5 = .ok (.sipush 300, 3) := by decide +kernel
theorem dX1_propertyOf_8 : decode cX1_propertyOf 8 = .ok (.if_icmp .ge 13, 3) := by decide +kernel
theorem dX1_propertyOf_11 : decode cX1_propertyOf 11 = .ok (.iload_n 2, 1) := by decide +kernel
theorem dX1_propertyOf_12 : decode cX1_propertyOf 12 = .ok (.ifCond .lt 9, 3) := by decide +kernel
theorem dX1_propertyOf_15 : decode cX1_propertyOf 15 = .ok (.iload_n 2, 1) := by decide +kernel
theorem dX1_propertyOf_16 : decode cX1_propertyOf 16 = .ok (.bipush 10, 2) := by decide +kernel
theorem dX1_propertyOf_18 : decode cX1_propertyOf 18 = .ok (.if_icmp .lt 5, 3) := by decide +kernel
theorem dX1_propertyOf_21 : decode cX1_propertyOf 21 = .ok (.iconst (-1), 1) := by decide +kernel
theorem dX1_propertyOf_22 : decode cX1_propertyOf 22 = .ok (.ireturn, 1) := by decide +kernel
theorem dX1_propertyOf_23 : decode cX1_propertyOf 23 = .ok (.aload_n 0, 1) := by decide +kernel
theorem dX1_propertyOf_24 : decode cX1_propertyOf 24 = .ok (.getfield 9, 3) := by decide +kernel
theorem dX1_propertyOf_27 : decode cX1_propertyOf 27 = .ok (.iload_n 1, 1) := by decide +kernel
theorem dX1_propertyOf_28 : decode cX1_propertyOf 28 = .ok (.bipush 10, 2) := by decide +kernel
theorem dX1_propertyOf_30 : decode cX1_propertyOf 30 = .ok (.imul, 1) := by decide +kernel
theorem dX1_propertyOf_31 : decode cX1_propertyOf 31 = .ok (.iload_n 2, 1) := by decide +kernel
theorem dX1_propertyOf_32 : decode cX1_propertyOf 32 = .ok (.iadd, 1) := by decide +kernel
theorem dX1_propertyOf_33 : decode cX1_propertyOf 33 = .ok (.iaload, 1) := by decide +kernel
theorem dX1_propertyOf_34 : decode cX1_propertyOf 34 = .ok (.ireturn, 1) := by decide +kernel
theorem dX2_init_0 : decode cX2_init 0 = .ok (.aload_n 0, 1) := by decide +kernel
theorem dX2_init_1 : decode cX2_init 1 = .ok (.invokespecial 3, 3) := by decide +kernel
theorem dX2_init_4 : decode cX2_init 4 = .ok (.aload_n 0, 1) := by decide +kernel
theorem dX2_init_5 : decode cX2_init 5 = .ok (.iconst (-1), 1) := by decide +kernel
theorem dX2_init_6 : decode cX2_init 6 = .ok (.putfield 9, 3) := by decide +kernel
theorem dX2_init_9 : decode cX2_init 9 = .ok (.aload_n 0, 1) := by decide +kernel
theorem dX2_init_10 : decode cX2_init 10 = .ok (.iconst (-1), 1) := by decide +kernel
theorem dX2_init_11 : decode cX2_init 11 = .ok (.putfield 15, 3) := by decide +kernel
theorem dX2_init_14 : decode cX2_init 14 = .ok (.return_, 1) := by decide +kernel
theorem dX2_begin_0 : decode cX2_begin 0 = .ok (.aload_n 0, 1) := by decide +kernel
theorem dX2_begin_1 : decode cX2_begin 1 = .ok (.iload_n 1, 1) := by decide +kernel
theorem dX2_begin_2 : decode cX2_begin 2 = .ok (.putfield 18, 3) := by decide +kernel
theorem dX2_begin_5 : decode cX2_begin 5 = .ok (.aload_n 0, 1) := by decide +kernel
theorem dX2_begin_6 : decode cX2_begin 6 = .ok (.iload_n 2, 1) := by decide +kernel
theorem dX2_begin_7 : decode cX2_begin 7 = .ok (.putfield 21, 3) := by decide +kernel
theorem dX2_begin_10 : decode cX2_begin 10 = .ok (.aload_n 0, 1) := by decide +kernel
theorem dX2_begin_11 : decode cX2_begin 11 = .ok (.iconst 0, 1) := by decide +kernel
theorem dX2_begin_12 : decode cX2_begin 12 = .ok (.putfield 24, 3) := by decide +kernel
theorem dX2_begin_15 : decode cX2_begin 15 = .ok (.aload_n 0, 1) := by decide +kernel
theorem dX2_begin_16 : decode cX2_begin 16 = .ok (.iconst 0, 1) := by decide +kernel
theorem dX2_begin_17 : decode cX2_begin 17 = .ok (.putfield 27, 3) := by decide +kernel
theorem dX2_begin_20 : decode cX2_begin 20 = .ok (.aload_n 0, 1) := by decide +kernel
theorem dX2_begin_21 : decode cX2_begin 21 = .ok (.iconst (-1), 1) := by decide +kernel
theorem dX2_begin_22 : decode cX2_begin 22 = .ok (.putfield 9, 3) := by decide +kernel
theorem dX2_begin_25 : decode cX2_begin 25 = .ok (.aload_n 0, 1) := by decide +kernel
theorem dX2_begin_26 : decode cX2_begin 26 = .ok (.iconst 0, 1) := by decide +kernel
theorem dX2_begin_27 : decode cX2_begin 27 = .ok (.putfield 30, 3) := by decide +kernel
theorem dX2_begin_30 : decode cX2_begin 30 = .ok (.aload_n 0, 1) := by decide +kernel
theorem dX2_begin_31 : decode cX2_begin 31 = .ok (.iconst 0, 1) := by decide +kernel
theorem dX2_begin_32 : decode cX2_begin 32 = .ok (.putfield 34, 3) := by decide +kernel
theorem dX2_begin_35 : decode cX2_begin 35 = .ok (.aload_n 0, 1) := by decide +kernel
theorem dX2_begin_36 : decode cX2_begin 36 = .ok (.iconst 0, 1) := by decide +kernel
theorem dX2_begin_37 : decode cX2_begin 37 = .ok (.putfield 37, 3) := by decide +kernel
theorem dX2_begin_40 : decode cX2_begin 40 = .ok (.aload_n 0, 1) := by decide +kernel
theorem dX2_begin_41 : decode cX2_begin 41 = .ok (.iconst 0, 1) := by decide +kernel
theorem dX2_begin_42 : decode cX2_begin 42 = .ok (.putfield 40, 3) := by decide +kernel
theorem dX2_begin_45 : decode cX2_begin 45 = .ok (.aload_n 0, 1) := by decide +kernel
theorem dX2_begin_46 : decode cX2_begin 46 = .ok (.iconst 0, 1) := by decide +kernel
theorem dX2_begin_47 : decode cX2_begin 47 = .ok (.putfield 43, 3) := by decide +kernel
theorem dX2_begin_50 : decode cX2_begin 50 = .ok (.aload_n 0, 1) := by decide +kernel
theorem dX2_begin_51 : decode cX2_begin 51 = .ok (.iconst 0, 1) := by decide +kernel
theorem dX2_begin_52 : decode cX2_begin 52 = .ok (.putfield 46, 3) := by decide +kernel
theorem dX2_begin_55 : decode cX2_begin 55 = .ok (.aload_n 0, 1) := by decide +kernel
theorem dX2_begin_56 : decode cX2_begin 56 = .ok (.iconst (-1), 1) := by decide +kernel
theorem dX2_begin_57 : decode cX2_begin 57 = .ok (.putfield 15, 3) := by decide +kernel
theorem dX2_begin_60 : decode cX2_begin 60 = .ok (.return_, 1) := by decide +kernel
theorem dX2_copyFrom_0 : decode cX2_copyFrom 0 = .ok (.aload_n 0, 1) := by decide +kernel
theorem dX2_copyFrom_1 : decode cX2_copyFrom 1 = .ok (.aload_n 1, 1) := by decide +kernel
theorem dX2_copyFrom_2 : decode cX2_copyFrom 2 = .ok (.getfield 18, 3) := by decide +kernel
theorem dX2_copyFrom_5 : decode cX2_copyFrom 5 = .ok (.putfield 18, 3) := by decide +kernel
theorem dX2_copyFrom_8 : decode cX2_copyFrom 8 = .ok (.aload_n 0, 1) := by decide +kernel
theorem dX2_copyFrom_9 : decode cX2_copyFrom 9 = .ok (.aload_n 1, 1) := by decide +kernel
theorem dX2_copyFrom_10 : decode cX2_copyFrom 10 = .ok (.getfield 21, 3) := by decide +kernel
theorem dX2_copyFrom_13 : decode cX2_copyFrom 13 = .ok (.putfield 21, 3) := by decide +kernel
theorem dX2_copyFrom_16 : decode cX2_copyFrom 16 = .ok (.aload_n 0, 1) := by decide +kernel
theorem dX2_copyFrom_17 : decode cX2_copyFrom 17 = .ok (.aload_n 1, 1) := by decide +kernel
theorem dX2_copyFrom_18 : decode cX2_copyFrom 18 = .ok (.getfield 24, 3) := by decide +kernel
theorem dX2_copyFrom_21 : decode cX2_copyFrom 21 = .ok (.putfield 24, 3) := by decide +kernel
theorem dX2_copyFrom_24 : decode cX2_copyFrom 24 = .ok (.aload_n 0, 1) := by decide +kernel
theorem dX2_copyFrom_25 : decode cX2_copyFrom 25 = .ok (.aload_n 1, 1) := by decide +kernel
theorem dX2_copyFrom_26 : decode cX2_copyFrom 26 = .ok (.getfield 27, 3) := by decide +kernel
theorem dX2_copyFrom_29 : decode cX2_copyFrom 29 = .ok (.putfield 27, 3) := by decide +kernel
theorem dX2_copyFrom_32 : decode cX2_copyFrom 32 = .ok (.aload_n 0, 1) := by decide +kernel
theorem dX2_copyFrom_33 : decode cX2_copyFrom 33 = .ok (.aload_n 1, 1) := by decide +kernel
theorem dX2_copyFrom_34 : decode cX2_copyFrom 34 = .ok (.getfield 9, 3) := by decide +kernel
theorem dX2_copyFrom_37 : decode cX2_copyFrom 37 = .ok (.putfield 9, 3) := by decide +kernel
theorem dX2_copyFrom_40 : decode cX2_copyFrom 40 = .ok (.aload_n 0, 1) := by decide +kernel
theorem dX2_copyFrom_41 : decode cX2_copyFrom 41 = .ok (.aload_n 1, 1) := by decide +kernel
theorem dX2_copyFrom_42 : decode cX2_copyFrom 42 = .ok (.getfield 30, 3) := by decide +kernel
theorem dX2_copyFrom_45 : decode cX2_copyFrom 45 = .ok (.putfield 30, 3) := by decide +kernel
theorem dX2_copyFrom_48 : decode cX2_copyFrom 48 = .ok (.aload_n 0, 1) := by decide +kernel
theorem dX2_copyFrom_49 : decode cX2_copyFrom 49 = .ok (.aload_n 1, 1) := by decide +kernel
theorem dX2_copyFrom_50 : decode cX2_copyFrom 50 = .ok (.getfield 34, 3) := by decide +kernel
theorem dX2_copyFrom_53 : decode cX2_copyFrom 53 = .ok (.putfield 34, 3) := by decide +kernel
theorem dX2_copyFrom_56 : decode cX2_copyFrom 56 = .ok (.aload_n 0, 1) := by decide +kernel
theorem dX2_copyFrom_57 : decode cX2_copyFrom 57 = .ok (.aload_n 1, 1) := by decide +kernel
theorem dX2_copyFrom_58 : decode cX2_copyFrom 58 = .ok (.getfield 37, 3) := by decide +kernel
theorem dX2_copyFrom_61 : decode cX2_copyFrom 61 = .ok (.putfield 37, 3) := by decide +kernel
theorem dX2_copyFrom_64 : decode cX2_copyFrom 64 = .ok (.aload_n 0, 1) := by decide +kernel
theorem dX2_copyFrom_65 : decode cX2_copyFrom 65 = .ok (.aload_n 1, 1) := by decide +kernel
theorem dX2_copyFrom_66 : decode cX2_copyFrom 66 = .ok (.getfield 40, 3) := by decide +kernel
theorem dX2_copyFrom_69 : decode cX2_copyFrom 69 = .ok (.putfield 40, 3) := by decide +kernel
theorem dX2_copyFrom_72 : decode cX2_copyFrom 72 = .ok (.aload_n 0, 1) := by decide +kernel
theorem dX2_copyFrom_73 : decode cX2_copyFrom 73 = .ok (.aload_n 1, 1) := by decide +kernel
theorem dX2_copyFrom_74 : decode cX2_copyFrom 74 = .ok (.getfield 43, 3) := by decide +kernel
theorem dX2_copyFrom_77 : decode cX2_copyFrom 77 = .ok (.putfield 43, 3) := by decide +kernel
theorem dX2_copyFrom_80 : decode cX2_copyFrom 80 = .ok (.aload_n 0, 1) := by decide +kernel
theorem dX2_copyFrom_81 : decode cX2_copyFrom 81 = .ok (.aload_n 1, 1) := by decide +kernel
theorem dX2_copyFrom_82 : decode cX2_copyFrom 82 = .ok (.getfield 46, 3) := by decide +kernel
theorem dX2_copyFrom_85 : decode cX2_copyFrom 85 = .ok (.putfield 46, 3) := by decide +kernel
theorem dX2_copyFrom_88 : decode cX2_copyFrom 88 = .ok (.aload_n 0, 1) := by decide +kernel
theorem dX2_copyFrom_89 : decode cX2_copyFrom 89 = .ok (.aload_n 1, 1) := by decide +kernel
theorem dX2_copyFrom_90 : decode cX2_copyFrom 90 = .ok (.getfield 15, 3) := by decide +kernel
theorem dX2_copyFrom_93 : decode cX2_copyFrom 93 = .ok (.putfield 15, 3) := by decide +kernel
theorem dX2_copyFrom_96 : decode cX2_copyFrom 96 = .ok (.return_, 1) := by decide +kernel
theorem dX2_tail_0 : decode cX2_tail 0 = .ok (.aload_n 0, 1) := by decide +kernel
theorem dX2_tail_1 : decode cX2_tail 1 = .ok (.getfield 24, 3) := by decide +kernel
theorem dX2_tail_4 : decode cX2_tail 4 = .ok (.aload_n 0, 1) := by decide +kernel
theorem dX2_tail_5 : decode cX2_tail 5 = .ok (.getfield 21, 3) := by decide +kernel
theorem dX2_tail_8 : decode cX2_tail 8 = .ok (.isub, 1) := by decide +kernel
theorem dX2_tail_9 : decode cX2_tail 9 = .ok (.ireturn, 1) := by decide +kernel
theorem dX2_middle_0 : decode cX2_middle 0 = .ok (.aload_n 0, 1) := by decide +kernel
theorem dX2_middle_1 : decode cX2_middle 1 = .ok (.getfield 24, 3) := by decide +kernel
theorem dX2_middle_4 : decode cX2_middle 4 = .ok (.aload_n 0, 1) := by decide +kernel
theorem dX2_middle_5 : decode cX2_middle 5 = .ok (.getfield 21, 3) := by decide +kernel
theorem dX2_middle_8 : decode cX2_middle 8 = .ok (.iconst 2, 1) := by decide +kernel
theorem dX2_middle_9 : decode cX2_middle 9 = .ok (.idiv, 1) := by decide +kernel
theorem dX2_middle_10 : decode cX2_middle 10 = .ok (.isub, 1) := by decide +kernel
theorem dX2_middle_11 : decode cX2_middle 11 = .ok (.ireturn, 1) := by decide +kernel
theorem dX2_accept_0 : decode cX2_accept 0 = .ok (.aload_n 0, 1) := by decide +kernel
theorem dX2_accept_1 : decode cX2_accept 1 = .ok (.getfield 9, 3) := by decide +kernel
theorem dX2_accept_4 : decode cX2_accept 4 = .ok (.iload_n 1, 1) := by decide +kernel
theorem dX2_accept_5 : decode cX2_accept 5 = .ok (.if_icmp .ne 24, 3) := by decide +kernel
theorem dX2_accept_8 : decode cX2_accept 8 = .ok (.iload_n 2, 1) := by decide +kernel
theorem dX2_accept_9 : decode cX2_accept 9 = .ok (.aload_n 0, 1) := by decide +kernel
theorem dX2_accept_10 : decode cX2_accept 10 = .ok (.getfield 46, 3) := by decide +kernel
theorem dX2_accept_13 : decode cX2_accept 13 = .ok (.isub, 1) := by decide +kernel
theorem dX2_accept_14 : decode cX2_accept 14 = .ok (.iload_n 3, 1) := by decide +kernel
theorem dX2_accept_15 : decode cX2_accept 15 = .ok (.if_icmp .gt 14, 3) := by decide +kernel
theorem dX2_accept_18 : decode cX2_accept 18 = .ok (.aload_n 0, 1) := by decide +kernel
theorem dX2_accept_19 : decode cX2_accept 19 = .ok (.dup, 1) := by decide +kernel
theorem dX2_accept_20 : decode cX2_accept 20 = .ok (.getfield 40, 3) := by decide +kernel
theorem dX2_accept_23 : decode cX2_accept 23 = .ok (.iconst 1, 1) := by decide +kernel
theorem dX2_accept_24 : decode cX2_accept 24 = .ok (.iadd, 1) := by decide +kernel
theorem dX2_accept_25 : decode cX2_accept 25 = .ok (.putfield 40, 3) := by decide +kernel
theorem dX2_accept_28 : decode cX2_accept 28 = .ok (.return_, 1) := by decide +kernel
theorem dX2_accept_29 : decode cX2_accept 29 = .ok (.aload_n 0, 1) := by decide +kernel
theorem dX2_accept_30 : decode cX2_accept 30 = .ok (.getfield 9, 3) := by decide +kernel
theorem dX2_accept_33 : decode cX2_accept 33 = .ok (.iconst (-1), 1) := by decide +kernel
theorem dX2_accept_34 : decode cX2_accept 34 = .ok (.if_icmp .ne 11, 3) := by decide +kernel
theorem dX2_accept_37 : decode cX2_accept 37 = .ok (.aload_n 0, 1) := by decide +kernel
theorem dX2_accept_38 : decode cX2_accept 38 = .ok (.iload_n 1, 1) := by decide +kernel
theorem dX2_accept_39 : decode cX2_accept 39 = .ok (.putfield 9, 3) := by decide +kernel
theorem dX2_accept_42 : decode cX2_accept 42 = .ok (.goto 29, 3) := by decide +kernel
theorem dX2_accept_45 : decode cX2_accept 45 = .ok (.aload_n 0, 1) := by decide +kernel
theorem dX2_accept_46 : decode cX2_accept 46 = .ok (.getfield 9, 3) := by decide +kernel
theorem dX2_accept_49 : decode cX2_accept 49 = .ok (.iload_n 1, 1) := by decide +kernel
theorem dX2_accept_50 : decode cX2_accept 50 = .ok (.if_icmp .ne 16, 3) := by decide +kernel
theorem dX2_accept_53 : decode cX2_accept 53 = .ok (.aload_n 0, 1) := by decide +kernel
theorem dX2_accept_54 : decode cX2_accept 54 = .ok (.dup, 1) := by decide +kernel
theorem dX2_accept_55 : decode cX2_accept 55 = .ok (.getfield 37, 3) := by decide +kernel
theorem dX2_accept_58 : decode cX2_accept 58 = .ok (.iconst 1, 1) := by decide +kernel
theorem dX2_accept_59 : decode cX2_accept 59 = .ok (.iadd, 1) := by decide +kernel
theorem dX2_accept_60 : decode cX2_accept 60 = .ok (.putfield 37, 3) := by decide +kernel
theorem dX2_accept_63 : decode cX2_accept 63 = .ok (.goto 8, 3) := by decide +kernel
theorem dX2_accept_66 : decode cX2_accept 66 = .ok (.aload_n 0, 1) := by decide +kernel
theorem dX2_accept_67 : decode cX2_accept 67 = .ok (.iconst 1, 1) := by decide +kernel
theorem dX2_accept_68 : decode cX2_accept 68 = .ok (.putfield 30, 3) := by decide +kernel
theorem dX2_accept_71 : decode cX2_accept 71 = .ok (.aload_n 0, 1) := by decide +kernel
theorem dX2_accept_72 : decode cX2_accept 72 = .ok (.iload_n 2, 1) := by decide +kernel
theorem dX2_accept_73 : decode cX2_accept 73 = .ok (.putfield 46, 3) := by decide +kernel
theorem dX2_accept_76 : decode cX2_accept 76 = .ok (.return_, 1) := by decide +kernel
theorem dX2_reason_0 : decode cX2_reason 0 = .ok (.aload_n 0, 1) := by decide +kernel
theorem dX2_reason_1 : decode cX2_reason 1 = .ok (.getfield 9, 3) := by decide +kernel
theorem dX2_reason_4 : decode cX2_reason 4 = .ok (.iconst (-1), 1) := by decide +kernel
theorem dX2_reason_5 : decode cX2_reason 5 = .ok (.if_icmp .ne 5, 3) := by decide +kernel
theorem dX2_reason_8 : decode cX2_reason 8 = .ok (.iconst 1, 1) := by decide +kernel
theorem dX2_reason_9 : decode cX2_reason 9 = .ok (.ireturn, 1) := by decide +kernel
theorem dX2_reason_10 : decode cX2_reason 10 = .ok (.aload_n 0, 1) := by decide +kernel
theorem dX2_reason_11 : decode cX2_reason 11 = .ok (.getfield 30, 3) := by decide +kernel
theorem dX2_reason_14 : decode cX2_reason 14 = .ok (.ifCond .eq 5, 3) := by decide +kernel
theorem dX2_reason_17 : decode cX2_reason 17 = .ok (.iconst 2, 1) := by decide +kernel
theorem dX2_reason_18 : decode cX2_reason 18 = .ok (.ireturn, 1) := by decide +kernel
theorem dX2_reason_19 : decode cX2_reason 19 = .ok (.aload_n 0, 1) := by decide +kernel
theorem dX2_reason_20 : decode cX2_reason 20 = .ok (.getfield 34, 3) := by decide +kernel
theorem dX2_reason_23 : decode cX2_reason 23 = .ok (.ifCond .eq 5, 3) := by decide +kernel
theorem dX2_reason_26 : decode cX2_reason 26 = .ok (.iconst 3, 1) := by decide +kernel
theorem dX2_reason_27 : decode cX2_reason 27 = .ok (.ireturn, 1) := by decide +kernel
theorem dX2_reason_28 : decode cX2_reason 28 = .ok (.aload_n 0, 1) := by decide +kernel
theorem dX2_reason_29 : decode cX2_reason 29 = .ok (.getfield 43, 3) := by decide +kernel
theorem dX2_reason_32 : decode cX2_reason 32 = .ok (.ifCond .ne 7, 3) := by decide +kernel
theorem dX2_reason_35 : decode cX2_reason 35 = .ok (.iconst 4, 1) := by decide +kernel
theorem dX2_reason_36 : decode cX2_reason 36 = .ok (.goto 7, 3) := by decide +kernel
theorem dX2_reason_39 : decode cX2_reason 39 = .ok (.aload_n 0, 1) := by decide +kernel
theorem dX2_reason_40 : decode cX2_reason 40 = .ok (.getfield 43, 3) := by decide +kernel
theorem dX2_reason_43 : decode cX2_reason 43 = .ok (.ireturn, 1) := by decide +kernel
theorem dX2_property_0 : decode cX2_property 0 = .ok (.iload_n 1, 1) := by decide +kernel
theorem dX2_property_1 : decode cX2_property 1 = .ok (.tableswitch 116 0 9 #[55, 60, 65, 70, 75, 88, 101, 106, 116, 111], 55) := by decide +kernel
theorem dX2_property_56 : decode cX2_property 56 = .ok (.aload_n 0, 1) := by decide +kernel
theorem dX2_property_57 : decode cX2_property 57 = .ok (.getfield 21, 3) := by decide +kernel
theorem dX2_property_60 : decode cX2_property 60 = .ok (.ireturn, 1) := by decide +kernel
theorem dX2_property_61 : decode cX2_property 61 = .ok (.aload_n 0, 1) := by decide +kernel
theorem dX2_property_62 : decode cX2_property 62 = .ok (.getfield 27, 3) := by decide +kernel
theorem dX2_property_65 : decode cX2_property 65 = .ok (.ireturn, 1) := by decide +kernel
theorem dX2_property_66 : decode cX2_property 66 = .ok (.aload_n 0, 1) := by decide +kernel
theorem dX2_property_67 : decode cX2_property 67 = .ok (.getfield 24, 3) := by decide +kernel
theorem dX2_property_70 : decode cX2_property 70 = .ok (.ireturn, 1) := by decide +kernel
theorem dX2_property_71 : decode cX2_property 71 = .ok (.aload_n 0, 1) := by decide +kernel
theorem dX2_property_72 : decode cX2_property 72 = .ok (.getfield 9, 3) := by decide +kernel
theorem dX2_property_75 : decode cX2_property 75 = .ok (.ireturn, 1) := by decide +kernel
theorem dX2_property_76 : decode cX2_property 76 = .ok (.aload_n 0, 1) := by decide +kernel
theorem dX2_property_77 : decode cX2_property 77 = .ok (.getfield 30, 3) := by decide +kernel
theorem dX2_property_80 : decode cX2_property 80 = .ok (.ifCond .eq 7, 3) := by decide +kernel
theorem dX2_property_83 : decode cX2_property 83 = .ok (.iconst 1, 1) := by decide +kernel
theorem dX2_property_84 : decode cX2_property 84 = .ok (.goto 4, 3) := by decide +kernel
theorem dX2_property_87 : decode cX2_property 87 = .ok (.iconst 0, 1) := by decide +kernel
theorem dX2_property_88 : decode cX2_property 88 = .ok (.ireturn, 1) := by decide +kernel
theorem dX2_property_89 : decode cX2_property 89 = .ok (.aload_n 0, 1) := by decide +kernel
theorem dX2_property_90 : decode cX2_property 90 = .ok (.getfield 34, 3) := by decide +kernel
theorem dX2_property_93 : decode cX2_property 93 = .ok (.ifCond .eq 7, 3) := by decide +kernel
theorem dX2_property_96 : decode cX2_property 96 = .ok (.iconst 1, 1) := by decide +kernel
theorem dX2_property_97 : decode cX2_property 97 = .ok (.goto 4, 3) := by decide +kernel
theorem dX2_property_100 : decode cX2_property 100 = .ok (.iconst 0, 1) := by decide +kernel
theorem dX2_property_101 : decode cX2_property 101 = .ok (.ireturn, 1) := by decide +kernel
theorem dX2_property_102 : decode cX2_property 102 = .ok (.aload_n 0, 1) := by decide +kernel
theorem dX2_property_103 : decode cX2_property 103 = .ok (.getfield 37, 3) := by decide +kernel
theorem dX2_property_106 : decode cX2_property 106 = .ok (.ireturn, 1) := by decide +kernel
theorem dX2_property_107 : decode cX2_property 107 = .ok (.aload_n 0, 1) := by decide +kernel
theorem dX2_property_108 : decode cX2_property 108 = .ok (.getfield 40, 3) := by decide +kernel
theorem dX2_property_111 : decode cX2_property 111 = .ok (.ireturn, 1) := by decide +kernel
theorem dX2_property_112 : decode cX2_property 112 = .ok (.aload_n 0, 1) := by decide +kernel
theorem dX2_property_113 : decode cX2_property 113 = .ok (.getfield 43, 3) := by decide +kernel
theorem dX2_property_116 : decode cX2_property 116 = .ok (.ireturn, 1) := by decide +kernel
theorem dX2_property_117 : decode cX2_property 117 = .ok (.iconst (-1), 1) := by decide +kernel
theorem dX2_property_118 : decode cX2_property 118 = .ok (.ireturn, 1) := by decide +kernel
theorem dX3_init_0 : decode cX3_init 0 = .ok (.aload_n 0, 1) := by decide +kernel
theorem dX3_init_1 : decode cX3_init 1 = .ok (.invokespecial 3, 3) := by decide +kernel
theorem dX3_init_4 : decode cX3_init 4 = .ok (.aload_n 0, 1) := by decide +kernel
theorem dX3_init_5 : decode cX3_init 5 = .ok (.bipush 30, 2) := by decide +kernel
theorem dX3_init_7 : decode cX3_init 7 = .ok (.newarray .int, 2) := by decide +kernel
theorem dX3_init_9 : decode cX3_init 9 = .ok (.putfield 9, 3) := by decide +kernel
theorem dX3_init_12 : decode cX3_init 12 = .ok (.aload_n 0, 1) := by decide +kernel
theorem dX3_init_13 : decode cX3_init 13 = .ok (.bipush 30, 2) := by decide +kernel
theorem dX3_init_15 : decode cX3_init 15 = .ok (.newarray .int, 2) := by decide +kernel
theorem dX3_init_17 : decode cX3_init 17 = .ok (.putfield 15, 3) := by decide +kernel
theorem dX3_init_20 : decode cX3_init 20 = .ok (.return_, 1) := by decide +kernel
theorem dX3_copyFrom_0 : decode cX3_copyFrom 0 = .ok (.aload_n 1, 1) := by decide +kernel
theorem dX3_copyFrom_1 : decode cX3_copyFrom 1 = .ok (.getfield 9, 3) := by decide +kernel
theorem dX3_copyFrom_4 : decode cX3_copyFrom 4 = .ok (.iconst 0, 1) := by decide +kernel
theorem dX3_copyFrom_5 : decode cX3_copyFrom 5 = .ok (.aload_n 0, 1) := by decide +kernel
theorem dX3_copyFrom_6 : decode cX3_copyFrom 6 = .ok (.getfield 9, 3) := by decide +kernel
theorem dX3_copyFrom_9 : decode cX3_copyFrom 9 = .ok (.iconst 0, 1) := by decide +kernel
theorem dX3_copyFrom_10 : decode cX3_copyFrom 10 = .ok (.bipush 30, 2) := by decide +kernel
theorem dX3_copyFrom_12 : decode cX3_copyFrom 12 = .ok (.invokestatic 18, 3) := by decide +kernel
theorem dX3_copyFrom_15 : decode cX3_copyFrom 15 = .ok (.aload_n 1, 1) := by decide +kernel
theorem dX3_copyFrom_16 : decode cX3_copyFrom 16 = .ok (.getfield 15, 3) := by decide +kernel
theorem dX3_copyFrom_19 : decode cX3_copyFrom 19 = .ok (.iconst 0, 1) := by decide +kernel
theorem dX3_copyFrom_20 : decode cX3_copyFrom 20 = .ok (.aload_n 0, 1) := by decide +kernel
theorem dX3_copyFrom_21 : decode cX3_copyFrom 21 = .ok (.getfield 15, 3) := by decide +kernel
theorem dX3_copyFrom_24 : decode cX3_copyFrom 24 = .ok (.iconst 0, 1) := by decide +kernel
theorem dX3_copyFrom_25 : decode cX3_copyFrom 25 = .ok (.bipush 30, 2) := by decide +kernel
theorem dX3_copyFrom_27 : decode cX3_copyFrom 27 = .ok (.invokestatic 18, 3) := by decide +kernel
theorem dX3_copyFrom_30 : decode cX3_copyFrom 30 = .ok (.aload_n 0, 1) := by decide +kernel
theorem dX3_copyFrom_31 : decode cX3_copyFrom 31 = .ok (.aload_n 1, 1) := by decide +kernel
theorem dX3_copyFrom_32 : decode cX3_copyFrom 32 = .ok (.getfield 24, 3) := by decide +kernel
theorem dX3_copyFrom_35 : decode cX3_copyFrom 35 = .ok (.putfield 24, 3) := by decide +kernel
theorem dX3_copyFrom_38 : decode cX3_copyFrom 38 = .ok (.return_, 1) := by decide +kernel
theorem dX3_placeFor_0 : decode cX3_placeFor 0 = .ok (.iconst 0, 1) := by decide +kernel
theorem dX3_placeFor_1 : decode cX3_placeFor 1 = .ok (.istore_n 2, 1) := by decide +kernel
theorem dX3_placeFor_2 : decode cX3_placeFor 2 = .ok (.iload_n 2, 1) := by decide +kernel
theorem dX3_placeFor_3 : decode cX3_placeFor 3 = .ok (.aload_n 0, 1) := by decide +kernel
theorem dX3_placeFor_4 : decode cX3_placeFor 4 = .ok (.getfield 24, 3) := by decide +kernel
theorem dX3_placeFor_7 : decode cX3_placeFor 7 = .ok (.if_icmp .ge 21, 3) := by decide +kernel
theorem dX3_placeFor_10 : decode cX3_placeFor 10 = .ok (.aload_n 0, 1) := by decide +kernel
theorem dX3_placeFor_11 : decode cX3_placeFor 11 = .ok (.getfield 9, 3) := by decide +kernel
theorem dX3_placeFor_14 : decode cX3_placeFor 14 = .ok (.iload_n 2, 1) := by decide +kernel
theorem dX3_placeFor_15 : decode cX3_placeFor 15 = .ok (.iaload, 1) := by decide +kernel
theorem dX3_placeFor_16 : decode cX3_placeFor 16 = .ok (.iload_n 1, 1) := by decide +kernel
theorem dX3_placeFor_17 : decode cX3_placeFor 17 = .ok (.if_icmp .lt 5, 3) := by decide +kernel
theorem dX3_placeFor_20 : decode cX3_placeFor 20 = .ok (.iload_n 2, 1) := by decide +kernel
theorem dX3_placeFor_21 : decode cX3_placeFor 21 = .ok (.ireturn, 1) := by decide +kernel
theorem dX3_placeFor_22 : decode cX3_placeFor 22 = .ok (.iinc 2 1, 3) := by decide +kernel
theorem dX3_placeFor_25 : decode cX3_placeFor 25 = .ok (.goto (-23), 3) := by decide +kernel
theorem dX3_placeFor_28 : decode cX3_placeFor 28 = .ok (.aload_n 0, 1) := by decide +kernel
theorem dX3_placeFor_29 : decode cX3_placeFor 29 = .ok (.getfield 24, 3) := by decide +kernel
theorem dX3_placeFor_32 : decode cX3_placeFor 32 = .ok (.ireturn, 1) := by decide +kernel
theorem dX3_laneOf_0 : decode cX3_laneOf 0 = .ok (.aload_n 0, 1) := by decide +kernel
theorem dX3_laneOf_1 : decode cX3_laneOf 1 = .ok (.iload_n 1, 1) := by decide +kernel
theorem dX3_laneOf_2 : decode cX3_laneOf 2 = .ok (.invokevirtual 28, 3) := by decide +kernel
theorem dX3_laneOf_5 : decode cX3_laneOf 5 = .ok (.istore_n 2, 1) := by decide +kernel
theorem dX3_laneOf_6 : decode cX3_laneOf 6 = .ok (.iload_n 2, 1) := by decide +kernel
theorem dX3_laneOf_7 : decode cX3_laneOf 7 = .ok (.aload_n 0, 1) := by decide +kernel
theorem dX3_laneOf_8 : decode cX3_laneOf 8 = .ok (.getfield 24, 3) := by decide +kernel
theorem dX3_laneOf_11 : decode cX3_laneOf 11 = .ok (.if_icmp .ge 22, 3) := by decide +kernel
theorem dX3_laneOf_14 : decode cX3_laneOf 14 = .ok (.aload_n 0, 1) := by decide +kernel
theorem dX3_laneOf_15 : decode cX3_laneOf 15 = .ok (.getfield 9, 3) := by decide +kernel
theorem dX3_laneOf_18 : decode cX3_laneOf 18 = .ok (.iload_n 2, 1) := by decide +kernel
theorem dX3_laneOf_19 : decode cX3_laneOf 19 = .ok (.iaload, 1) := by decide +kernel
theorem dX3_laneOf_20 : decode cX3_laneOf 20 = .ok (.iload_n 1, 1) := by decide +kernel
theorem dX3_laneOf_21 : decode cX3_laneOf 21 = .ok (.if_icmp .ne 12, 3) := by decide +kernel
theorem dX3_laneOf_24 : decode cX3_laneOf 24 = .ok (.aload_n 0, 1) := by decide +kernel
theorem dX3_laneOf_25 : decode cX3_laneOf 25 = .ok (.getfield 15, 3) := by decide +kernel
theorem dX3_laneOf_28 : decode cX3_laneOf 28 = .ok (.iload_n 2, 1) := by decide +kernel
theorem dX3_laneOf_29 : decode cX3_laneOf 29 = .ok (.iaload, 1) := by decide +kernel
theorem dX3_laneOf_30 : decode cX3_laneOf 30 = .ok (.goto 4, 3) := by decide +kernel
theorem dX3_laneOf_33 : decode cX3_laneOf 33 = .ok (.iconst (-1), 1) := by decide +kernel
theorem dX3_laneOf_34 : decode cX3_laneOf 34 = .ok (.ireturn, 1) := by decide +kernel
theorem dX3_put_0 : decode cX3_put 0 = .ok (.aload_n 0, 1) := by decide +kernel
theorem dX3_put_1 : decode cX3_put 1 = .ok (.iload_n 1, 1) := by decide +kernel
theorem dX3_put_2 : decode cX3_put 2 = .ok (.invokevirtual 28, 3) := by decide +kernel
theorem dX3_put_5 : decode cX3_put 5 = .ok (.istore_n 3, 1) := by decide +kernel
theorem dX3_put_6 : decode cX3_put 6 = .ok (.iload_n 3, 1) := by decide +kernel
theorem dX3_put_7 : decode cX3_put 7 = .ok (.aload_n 0, 1) := by decide +kernel
theorem dX3_put_8 : decode cX3_put 8 = .ok (.getfield 24, 3) := by decide +kernel
theorem dX3_put_11 : decode cX3_put 11 = .ok (.if_icmp .ge 13, 3) := by decide +kernel
theorem dX3_put_14 : decode cX3_put 14 = .ok (.aload_n 0, 1) := by decide +kernel
theorem dX3_put_15 : decode cX3_put 15 = .ok (.getfield 9, 3) := by decide +kernel
theorem dX3_put_18 : decode cX3_put 18 = .ok (.iload_n 3, 1) := by decide +kernel
theorem dX3_put_19 : decode cX3_put 19 = .ok (.iaload, 1) := by decide +kernel
theorem dX3_put_20 : decode cX3_put 20 = .ok (.iload_n 1, 1) := by decide +kernel
theorem dX3_put_21 : decode cX3_put 21 = .ok (.if_icmp .eq 7, 3) := by decide +kernel
theorem dX3_put_24 : decode cX3_put 24 = .ok (.iconst 1, 1) := by decide +kernel
theorem dX3_put_25 : decode cX3_put 25 = .ok (.goto 4, 3) := by decide +kernel
theorem dX3_put_28 : decode cX3_put 28 = .ok (.iconst 0, 1) := by decide +kernel
theorem dX3_put_29 : decode cX3_put 29 = .ok (.istore 4, 2) := by decide +kernel
theorem dX3_put_31 : decode cX3_put 31 = .ok (.iload 4, 2) := by decide +kernel
theorem dX3_put_33 : decode cX3_put 33 = .ok (.ifCond .eq 13, 3) := by decide +kernel
theorem dX3_put_36 : decode cX3_put 36 = .ok (.aload_n 0, 1) := by decide +kernel
theorem dX3_put_37 : decode cX3_put 37 = .ok (.getfield 24, 3) := by decide +kernel
theorem dX3_put_40 : decode cX3_put 40 = .ok (.bipush 30, 2) := by decide +kernel
theorem dX3_put_42 : decode cX3_put 42 = .ok (.if_icmp .lt 4, 3) := by decide +kernel
theorem dX3_put_45 : decode cX3_put 45 = .ok (.return_, 1) := by decide +kernel
theorem dX3_put_46 : decode cX3_put 46 = .ok (.iload 4, 2) := by decide +kernel
theorem dX3_put_48 : decode cX3_put 48 = .ok (.ifCond .eq 63, 3) := by decide +kernel
theorem dX3_put_51 : decode cX3_put 51 = .ok (.aload_n 0, 1) := by decide +kernel
theorem dX3_put_52 : decode cX3_put 52 = .ok (.getfield 24, 3) := by decide +kernel
theorem dX3_put_55 : decode cX3_put 55 = .ok (.istore 5, 2) := by decide +kernel
theorem dX3_put_57 : decode cX3_put 57 = .ok (.iload 5, 2) := by decide +kernel
theorem dX3_put_59 : decode cX3_put 59 = .ok (.iload_n 3, 1) := by decide +kernel
theorem dX3_put_60 : decode cX3_put 60 = .ok (.if_icmp .le 41, 3) := by decide +kernel
theorem dX3_put_63 : decode cX3_put 63 = .ok (.aload_n 0, 1) := by decide +kernel
theorem dX3_put_64 : decode cX3_put 64 = .ok (.getfield 9, 3) := by decide +kernel
theorem dX3_put_67 : decode cX3_put 67 = .ok (.iload 5, 2) := by decide +kernel
theorem dX3_put_69 : decode cX3_put 69 = .ok (.aload_n 0, 1) := by decide +kernel
theorem dX3_put_70 : decode cX3_put 70 = .ok (.getfield 9, 3) := by decide +kernel
theorem dX3_put_73 : decode cX3_put 73 = .ok (.iload 5, 2) := by decide +kernel
theorem dX3_put_75 : decode cX3_put 75 = .ok (.iconst 1, 1) := by decide +kernel
theorem dX3_put_76 : decode cX3_put 76 = .ok (.isub, 1) := by decide +kernel
theorem dX3_put_77 : decode cX3_put 77 = .ok (.iaload, 1) := by decide +kernel
theorem dX3_put_78 : decode cX3_put 78 = .ok (.iastore, 1) := by decide +kernel
theorem dX3_put_79 : decode cX3_put 79 = .ok (.aload_n 0, 1) := by decide +kernel
theorem dX3_put_80 : decode cX3_put 80 = .ok (.getfield 15, 3) := by decide +kernel
theorem dX3_put_83 : decode cX3_put 83 = .ok (.iload 5, 2) := by decide +kernel
theorem dX3_put_85 : decode cX3_put 85 = .ok (.aload_n 0, 1) := by decide +kernel
theorem dX3_put_86 : decode cX3_put 86 = .ok (.getfield 15, 3) := by decide +kernel
theorem dX3_put_89 : decode cX3_put 89 = .ok (.iload 5, 2) := by decide +kernel
theorem dX3_put_91 : decode cX3_put 91 = .ok (.iconst 1, 1) := by decide +kernel
theorem dX3_put_92 : decode cX3_put 92 = .ok (.isub, 1) := by decide +kernel
theorem dX3_put_93 : decode cX3_put 93 = .ok (.iaload, 1) := by decide +kernel
theorem dX3_put_94 : decode cX3_put 94 = .ok (.iastore, 1) := by decide +kernel
theorem dX3_put_95 : decode cX3_put 95 = .ok (.iinc 5 (-1), 3) := by decide +kernel
theorem dX3_put_98 : decode cX3_put 98 = .ok (.goto (-41), 3) := by decide +kernel
theorem dX3_put_101 : decode cX3_put 101 = .ok (.aload_n 0, 1) := by decide +kernel
theorem dX3_put_102 : decode cX3_put 102 = .ok (.dup, 1) := by decide +kernel
theorem dX3_put_103 : decode cX3_put 103 = .ok (.getfield 24, 3) := by decide +kernel
theorem dX3_put_106 : decode cX3_put 106 = .ok (.iconst 1, 1) := by decide +kernel
theorem dX3_put_107 : decode cX3_put 107 = .ok (.iadd, 1) := by decide +kernel
theorem dX3_put_108 : decode cX3_put 108 = .ok (.putfield 24, 3) := by decide +kernel
theorem dX3_put_111 : decode cX3_put 111 = .ok (.aload_n 0, 1) := by decide +kernel
theorem dX3_put_112 : decode cX3_put 112 = .ok (.getfield 9, 3) := by decide +kernel
theorem dX3_put_115 : decode cX3_put 115 = .ok (.iload_n 3, 1) := by decide +kernel
theorem dX3_put_116 : decode cX3_put 116 = .ok (.iload_n 1, 1) := by decide +kernel
theorem dX3_put_117 : decode cX3_put 117 = .ok (.iastore, 1) := by decide +kernel
theorem dX3_put_118 : decode cX3_put 118 = .ok (.aload_n 0, 1) := by decide +kernel
theorem dX3_put_119 : decode cX3_put 119 = .ok (.getfield 15, 3) := by decide +kernel
theorem dX3_put_122 : decode cX3_put 122 = .ok (.iload_n 3, 1) := by decide +kernel
theorem dX3_put_123 : decode cX3_put 123 = .ok (.iload_n 2, 1) := by decide +kernel
theorem dX3_put_124 : decode cX3_put 124 = .ok (.iastore, 1) := by decide +kernel
theorem dX3_put_125 : decode cX3_put 125 = .ok (.return_, 1) := by decide +kernel
theorem dX3_drop_0 : decode cX3_drop 0 = .ok (.aload_n 0, 1) := by decide +kernel
theorem dX3_drop_1 : decode cX3_drop 1 = .ok (.iload_n 1, 1) := by decide +kernel
theorem dX3_drop_2 : decode cX3_drop 2 = .ok (.invokevirtual 28, 3) := by decide +kernel
theorem dX3_drop_5 : decode cX3_drop 5 = .ok (.istore_n 2, 1) := by decide +kernel
theorem dX3_drop_6 : decode cX3_drop 6 = .ok (.iload_n 2, 1) := by decide +kernel
theorem dX3_drop_7 : decode cX3_drop 7 = .ok (.aload_n 0, 1) := by decide +kernel
theorem dX3_drop_8 : decode cX3_drop 8 = .ok (.getfield 24, 3) := by decide +kernel
theorem dX3_drop_11 : decode cX3_drop 11 = .ok (.if_icmp .ge 13, 3) := by decide +kernel
theorem dX3_drop_14 : decode cX3_drop 14 = .ok (.aload_n 0, 1) := by decide +kernel
theorem dX3_drop_15 : decode cX3_drop 15 = .ok (.getfield 9, 3) := by decide +kernel
theorem dX3_drop_18 : decode cX3_drop 18 = .ok (.iload_n 2, 1) := by decide +kernel
theorem dX3_drop_19 : decode cX3_drop 19 = .ok (.iaload, 1) := by decide +kernel
theorem dX3_drop_20 : decode cX3_drop 20 = .ok (.iload_n 1, 1) := by decide +kernel
theorem dX3_drop_21 : decode cX3_drop 21 = .ok (.if_icmp .eq 4, 3) := by decide +kernel
theorem dX3_drop_24 : decode cX3_drop 24 = .ok (.return_, 1) := by decide +kernel
theorem dX3_drop_25 : decode cX3_drop 25 = .ok (.aload_n 0, 1) := by decide +kernel
theorem dX3_drop_26 : decode cX3_drop 26 = .ok (.dup, 1) := by decide +kernel
theorem dX3_drop_27 : decode cX3_drop 27 = .ok (.getfield 24, 3) := by decide +kernel
theorem dX3_drop_30 : decode cX3_drop 30 = .ok (.iconst 1, 1) := by decide +kernel
theorem dX3_drop_31 : decode cX3_drop 31 = .ok (.isub, 1) := by decide +kernel
theorem dX3_drop_32 : decode cX3_drop 32 = .ok (.putfield 24, 3) := by decide +kernel
theorem dX3_drop_35 : decode cX3_drop 35 = .ok (.iload_n 2, 1) := by decide +kernel
theorem dX3_drop_36 : decode cX3_drop 36 = .ok (.istore_n 3, 1) := by decide +kernel
theorem dX3_drop_37 : decode cX3_drop 37 = .ok (.iload_n 3, 1) := by decide +kernel
theorem dX3_drop_38 : decode cX3_drop 38 = .ok (.aload_n 0, 1) := by decide +kernel
theorem dX3_drop_39 : decode cX3_drop 39 = .ok (.getfield 24, 3) := by decide +kernel
theorem dX3_drop_42 : decode cX3_drop 42 = .ok (.if_icmp .ge 37, 3) := by decide +kernel
theorem dX3_drop_45 : decode cX3_drop 45 = .ok (.aload_n 0, 1) := by decide +kernel
theorem dX3_drop_46 : decode cX3_drop 46 = .ok (.getfield 9, 3) := by decide +kernel
theorem dX3_drop_49 : decode cX3_drop 49 = .ok (.iload_n 3, 1) := by decide +kernel
theorem dX3_drop_50 : decode cX3_drop 50 = .ok (.aload_n 0, 1) := by decide +kernel
theorem dX3_drop_51 : decode cX3_drop 51 = .ok (.getfield 9, 3) := by decide +kernel
theorem dX3_drop_54 : decode cX3_drop 54 = .ok (.iload_n 3, 1) := by decide +kernel
theorem dX3_drop_55 : decode cX3_drop 55 = .ok (.iconst 1, 1) := by decide +kernel
theorem dX3_drop_56 : decode cX3_drop 56 = .ok (.iadd, 1) := by decide +kernel
theorem dX3_drop_57 : decode cX3_drop 57 = .ok (.iaload, 1) := by decide +kernel
theorem dX3_drop_58 : decode cX3_drop 58 = .ok (.iastore, 1) := by decide +kernel
theorem dX3_drop_59 : decode cX3_drop 59 = .ok (.aload_n 0, 1) := by decide +kernel
theorem dX3_drop_60 : decode cX3_drop 60 = .ok (.getfield 15, 3) := by decide +kernel
theorem dX3_drop_63 : decode cX3_drop 63 = .ok (.iload_n 3, 1) := by decide +kernel
theorem dX3_drop_64 : decode cX3_drop 64 = .ok (.aload_n 0, 1) := by decide +kernel
theorem dX3_drop_65 : decode cX3_drop 65 = .ok (.getfield 15, 3) := by decide +kernel
theorem dX3_drop_68 : decode cX3_drop 68 = .ok (.iload_n 3, 1) := by decide +kernel
theorem dX3_drop_69 : decode cX3_drop 69 = .ok (.iconst 1, 1) := by decide +kernel
theorem dX3_drop_70 : decode cX3_drop 70 = .ok (.iadd, 1) := by decide +kernel
theorem dX3_drop_71 : decode cX3_drop 71 = .ok (.iaload, 1) := by decide +kernel
theorem dX3_drop_72 : decode cX3_drop 72 = .ok (.iastore, 1) := by decide +kernel
theorem dX3_drop_73 : decode cX3_drop 73 = .ok (.iinc 3 1, 3) := by decide +kernel
theorem dX3_drop_76 : decode cX3_drop 76 = .ok (.goto (-39), 3) := by decide +kernel
theorem dX3_drop_79 : decode cX3_drop 79 = .ok (.return_, 1) := by decide +kernel
theorem dX3_countTo_0 : decode cX3_countTo 0 = .ok (.iconst 0, 1) := by decide +kernel
theorem dX3_countTo_1 : decode cX3_countTo 1 = .ok (.istore_n 2, 1) := by decide +kernel
theorem dX3_countTo_2 : decode cX3_countTo 2 = .ok (.iconst 0, 1) := by decide +kernel
theorem dX3_countTo_3 : decode cX3_countTo 3 = .ok (.istore_n 3, 1) := by decide +kernel
theorem dX3_countTo_4 : decode cX3_countTo 4 = .ok (.iload_n 3, 1) := by decide +kernel
theorem dX3_countTo_5 : decode cX3_countTo 5 = .ok (.aload_n 0, 1) := by decide +kernel
theorem dX3_countTo_6 : decode cX3_countTo 6 = .ok (.getfield 24, 3) := by decide +kernel
theorem dX3_countTo_9 : decode cX3_countTo 9 = .ok (.if_icmp .ge 22, 3) := by decide +kernel
theorem dX3_countTo_12 : decode cX3_countTo 12 = .ok (.aload_n 0, 1) := by decide +kernel
theorem dX3_countTo_13 : decode cX3_countTo 13 = .ok (.getfield 15, 3) := by decide +kernel
theorem dX3_countTo_16 : decode cX3_countTo 16 = .ok (.iload_n 3, 1) := by decide +kernel
theorem dX3_countTo_17 : decode cX3_countTo 17 = .ok (.iaload, 1) := by decide +kernel
theorem dX3_countTo_18 : decode cX3_countTo 18 = .ok (.iload_n 1, 1) := by decide +kernel
theorem dX3_countTo_19 : decode cX3_countTo 19 = .ok (.if_icmp .ne 6, 3) := by decide +kernel
theorem dX3_countTo_22 : decode cX3_countTo 22 = .ok (.iinc 2 1, 3) := by decide +kernel
theorem dX3_countTo_25 : decode cX3_countTo 25 = .ok (.iinc 3 1, 3) := by decide +kernel
theorem dX3_countTo_28 : decode cX3_countTo 28 = .ok (.goto (-24), 3) := by decide +kernel
theorem dX3_countTo_31 : decode cX3_countTo 31 = .ok (.iload_n 2, 1) := by decide +kernel
theorem dX3_countTo_32 : decode cX3_countTo 32 = .ok (.ireturn, 1) := by decide +kernel
theorem dX3_codeAndLane_0 : decode cX3_codeAndLane 0 = .ok (.iload_n 1, 1) := by decide +kernel
theorem dX3_codeAndLane_1 : decode cX3_codeAndLane 1 = .ok (.ifCond .lt 30, 3) := by decide +kernel
theorem dX3_codeAndLane_4 : decode cX3_codeAndLane 4 = .ok (.iload_n 1, 1) := by decide +kernel
theorem dX3_codeAndLane_5 : decode cX3_codeAndLane 5 = .ok (.aload_n 0, 1) := by decide +kernel
theorem dX3_codeAndLane_6 : decode cX3_codeAndLane 6 = .ok (.getfield 24, 3) := by decide +kernel
theorem dX3_codeAndLane_9 : decode cX3_codeAndLane 9 = .ok (.if_icmp .ge 22, 3) := by decide +kernel
theorem dX3_codeAndLane_12 : decode cX3_codeAndLane 12 = .ok (.bipush 10, 2) := by decide +kernel
theorem dX3_codeAndLane_14 : decode cX3_codeAndLane 14 = .ok (.aload_n 0, 1) := by decide +kernel
theorem dX3_codeAndLane_15 : decode cX3_codeAndLane 15 = .ok (.getfield 9, 3) := by decide +kernel
theorem dX3_codeAndLane_18 : decode cX3_codeAndLane 18 = .ok (.iload_n 1, 1) := by decide +kernel
theorem dX3_codeAndLane_19 : decode cX3_codeAndLane 19 = .ok (.iaload, 1) := by decide +kernel
theorem dX3_codeAndLane_20 : decode cX3_codeAndLane 20 = .ok (.imul, 1) := by decide +kernel
theorem dX3_codeAndLane_21 : decode cX3_codeAndLane 21 = .ok (.aload_n 0, 1) := by decide +kernel
theorem dX3_codeAndLane_22 : decode cX3_codeAndLane 22 = .ok (.getfield 15, 3) := by decide +kernel
theorem dX3_codeAndLane_25 : decode cX3_codeAndLane 25 = .ok (.iload_n 1, 1) := by decide +kernel
theorem dX3_codeAndLane_26 : decode cX3_codeAndLane 26 = .ok (.iaload, 1) := by decide +kernel
theorem dX3_codeAndLane_27 : decode cX3_codeAndLane 27 = .ok (.iadd, 1) := by decide +kernel
theorem dX3_codeAndLane_28 : decode cX3_codeAndLane 28 = .ok (.goto 4, 3) := by decide +kernel
theorem dX3_codeAndLane_31 : decode cX3_codeAndLane 31 = .ok (.iconst (-1), 1) := by decide +kernel
theorem dX3_codeAndLane_32 : decode cX3_codeAndLane 32 = .ok (.ireturn, 1) := by decide +kernel
theorem dX4_init_0 : decode cX4_init 0 = .ok (.aload_n 0, 1) := by decide +kernel
theorem dX4_init_1 : decode cX4_init 1 = .ok (.invokespecial 3, 3) := by decide +kernel
theorem dX4_init_4 : decode cX4_init 4 = .ok (.aload_n 0, 1) := by decide +kernel
theorem dX4_init_5 : decode cX4_init 5 = .ok (.bipush 80, 2) := by decide +kernel
theorem dX4_init_7 : decode cX4_init 7 = .ok (.newarray .char, 2) := by decide +kernel
theorem dX4_init_9 : decode cX4_init 9 = .ok (.putfield 9, 3) := by decide +kernel
theorem dX4_init_12 : decode cX4_init 12 = .ok (.aload_n 0, 1) := by decide +kernel
theorem dX4_init_13 : decode cX4_init 13 = .ok (.bipush 80, 2) := by decide +kernel
theorem dX4_init_15 : decode cX4_init 15 = .ok (.newarray .int, 2) := by decide +kernel
theorem dX4_init_17 : decode cX4_init 17 = .ok (.putfield 15, 3) := by decide +kernel
theorem dX4_init_20 : decode cX4_init 20 = .ok (.aload_n 0, 1) := by decide +kernel
theorem dX4_init_21 : decode cX4_init 21 = .ok (.bipush 80, 2) := by decide +kernel
theorem dX4_init_23 : decode cX4_init 23 = .ok (.newarray .int, 2) := by decide +kernel
theorem dX4_init_25 : decode cX4_init 25 = .ok (.putfield 19, 3) := by decide +kernel
theorem dX4_init_28 : decode cX4_init 28 = .ok (.aload_n 0, 1) := by decide +kernel
theorem dX4_init_29 : decode cX4_init 29 = .ok (.bipush 80, 2) := by decide +kernel
theorem dX4_init_31 : decode cX4_init 31 = .ok (.newarray .int, 2) := by decide +kernel
theorem dX4_init_33 : decode cX4_init 33 = .ok (.putfield 22, 3) := by decide +kernel
theorem dX4_init_36 : decode cX4_init 36 = .ok (.return_, 1) := by decide +kernel
theorem dX4_restart_0 : decode cX4_restart 0 = .ok (.aload_n 0, 1) := by decide +kernel
theorem dX4_restart_1 : decode cX4_restart 1 = .ok (.iconst 0, 1) := by decide +kernel
theorem dX4_restart_2 : decode cX4_restart 2 = .ok (.putfield 25, 3) := by decide +kernel
theorem dX4_restart_5 : decode cX4_restart 5 = .ok (.aload_n 0, 1) := by decide +kernel
theorem dX4_restart_6 : decode cX4_restart 6 = .ok (.iconst 0, 1) := by decide +kernel
theorem dX4_restart_7 : decode cX4_restart 7 = .ok (.putfield 29, 3) := by decide +kernel
theorem dX4_restart_10 : decode cX4_restart 10 = .ok (.return_, 1) := by decide +kernel
theorem dX4_addLeaf_0 : decode cX4_addLeaf 0 = .ok (.aload_n 0, 1) := by decide +kernel
theorem dX4_addLeaf_1 : decode cX4_addLeaf 1 = .ok (.bipush 120, 2) := by decide +kernel
theorem dX4_addLeaf_3 : decode cX4_addLeaf 3 = .ok (.iload_n 1, 1) := by decide +kernel
theorem dX4_addLeaf_4 : decode cX4_addLeaf 4 = .ok (.iconst 0, 1) := by decide +kernel
theorem dX4_addLeaf_5 : decode cX4_addLeaf 5 = .ok (.invokevirtual 32, 3) := by decide +kernel
theorem dX4_addLeaf_8 : decode cX4_addLeaf 8 = .ok (.pop, 1) := by decide +kernel
theorem dX4_addLeaf_9 : decode cX4_addLeaf 9 = .ok (.return_, 1) := by decide +kernel
theorem dX4_addCondition_0 : decode cX4_addCondition 0 = .ok (.aload_n 0, 1) := by decide +kernel
theorem dX4_addCondition_1 : decode cX4_addCondition 1 = .ok (.dup, 1) := by decide +kernel
theorem dX4_addCondition_2 : decode cX4_addCondition 2 = .ok (.getfield 29, 3) := by decide +kernel
theorem dX4_addCondition_5 : decode cX4_addCondition 5 = .ok (.iconst 1, 1) := by decide +kernel
theorem dX4_addCondition_6 : decode cX4_addCondition 6 = .ok (.iadd, 1) := by decide +kernel
theorem dX4_addCondition_7 : decode cX4_addCondition 7 = .ok (.putfield 29, 3) := by decide +kernel
theorem dX4_addCondition_10 : decode cX4_addCondition 10 = .ok (.aload_n 0, 1) := by decide +kernel
theorem dX4_addCondition_11 : decode cX4_addCondition 11 = .ok (.iload_n 1, 1) := by decide +kernel
theorem dX4_addCondition_12 : decode cX4_addCondition 12 = .ok (.i2c, 1) := by decide +kernel
theorem dX4_addCondition_13 : decode cX4_addCondition 13 = .ok (.iload_n 2, 1) := by decide +kernel
theorem dX4_addCondition_14 : decode cX4_addCondition 14 = .ok (.iload_n 3, 1) := by decide +kernel
theorem dX4_addCondition_15 : decode cX4_addCondition 15 = .ok (.invokevirtual 32, 3) := by decide +kernel
theorem dX4_addCondition_18 : decode cX4_addCondition 18 = .ok (.ireturn, 1) := by decide +kernel
theorem dX4_addNode_0 : decode cX4_addNode 0 = .ok (.aload_n 0, 1) := by decide +kernel
theorem dX4_addNode_1 : decode cX4_addNode 1 = .ok (.getfield 25, 3) := by decide +kernel
theorem dX4_addNode_4 : decode cX4_addNode 4 = .ok (.bipush 80, 2) := by decide +kernel
theorem dX4_addNode_6 : decode cX4_addNode 6 = .ok (.if_icmp .lt 5, 3) := by decide +kernel
theorem dX4_addNode_9 : decode cX4_addNode 9 = .ok (.iconst (-1), 1) := by decide +kernel
theorem dX4_addNode_10 : decode cX4_addNode 10 = .ok (.ireturn, 1) := by decide +kernel
theorem dX4_addNode_11 : decode cX4_addNode 11 = .ok (.aload_n 0, 1) := by decide +kernel
theorem dX4_addNode_12 : decode cX4_addNode 12 = .ok (.getfield 9, 3) := by decide +kernel
theorem dX4_addNode_15 : decode cX4_addNode 15 = .ok (.aload_n 0, 1) := by decide +kernel
theorem dX4_addNode_16 : decode cX4_addNode 16 = .ok (.getfield 25, 3) := by decide +kernel
theorem dX4_addNode_19 : decode cX4_addNode 19 = .ok (.iload_n 1, 1) := by decide +kernel
theorem dX4_addNode_20 : decode cX4_addNode 20 = .ok (.castore, 1) := by decide +kernel
theorem dX4_addNode_21 : decode cX4_addNode 21 = .ok (.aload_n 0, 1) := by decide +kernel
theorem dX4_addNode_22 : decode cX4_addNode 22 = .ok (.getfield 15, 3) := by decide +kernel
theorem dX4_addNode_25 : decode cX4_addNode 25 = .ok (.aload_n 0, 1) := by decide +kernel
theorem dX4_addNode_26 : decode cX4_addNode 26 = .ok (.getfield 25, 3) := by decide +kernel
theorem dX4_addNode_29 : decode cX4_addNode 29 = .ok (.iload_n 2, 1) := by decide +kernel
theorem dX4_addNode_30 : decode cX4_addNode 30 = .ok (.iastore, 1) := by decide +kernel
theorem dX4_addNode_31 : decode cX4_addNode 31 = .ok (.aload_n 0, 1) := by decide +kernel
theorem dX4_addNode_32 : decode cX4_addNode 32 = .ok (.getfield 19, 3) := by decide +kernel
theorem dX4_addNode_35 : decode cX4_addNode 35 = .ok (.aload_n 0, 1) := by decide +kernel
theorem dX4_addNode_36 : decode cX4_addNode 36 = .ok (.getfield 25, 3) := by decide +kernel
theorem dX4_addNode_39 : decode cX4_addNode 39 = .ok (.iload_n 3, 1) := by decide +kernel
theorem dX4_addNode_40 : decode cX4_addNode 40 = .ok (.iastore, 1) := by decide +kernel
theorem dX4_addNode_41 : decode cX4_addNode 41 = .ok (.aload_n 0, 1) := by decide +kernel
theorem dX4_addNode_42 : decode cX4_addNode 42 = .ok (.getfield 22, 3) := by decide +kernel
theorem dX4_addNode_45 : decode cX4_addNode 45 = .ok (.aload_n 0, 1) := by decide +kernel
theorem dX4_addNode_46 : decode cX4_addNode 46 = .ok (.getfield 25, 3) := by decide +kernel
theorem dX4_addNode_49 : decode cX4_addNode 49 = .ok (.iconst (-1), 1) := by decide +kernel
theorem dX4_addNode_50 : decode cX4_addNode 50 = .ok (.iastore, 1) := by decide +kernel
theorem dX4_addNode_51 : decode cX4_addNode 51 = .ok (.aload_n 0, 1) := by decide +kernel
theorem dX4_addNode_52 : decode cX4_addNode 52 = .ok (.dup, 1) := by decide +kernel
theorem dX4_addNode_53 : decode cX4_addNode 53 = .ok (.getfield 25, 3) := by decide +kernel
theorem dX4_addNode_56 : decode cX4_addNode 56 = .ok (.iconst 1, 1) := by decide +kernel
theorem dX4_addNode_57 : decode cX4_addNode 57 = .ok (.iadd, 1) := by decide +kernel
theorem dX4_addNode_58 : decode cX4_addNode 58 = .ok (.putfield 25, 3) := by decide +kernel
theorem dX4_addNode_61 : decode cX4_addNode 61 = .ok (.aload_n 0, 1) := by decide +kernel
theorem dX4_addNode_62 : decode cX4_addNode 62 = .ok (.getfield 25, 3) := by decide +kernel
theorem dX4_addNode_65 : decode cX4_addNode 65 = .ok (.iconst 1, 1) := by decide +kernel
theorem dX4_addNode_66 : decode cX4_addNode 66 = .ok (.isub, 1) := by decide +kernel
theorem dX4_addNode_67 : decode cX4_addNode 67 = .ok (.ireturn, 1) := by decide +kernel
theorem dX4_otherwise_0 : decode cX4_otherwise 0 = .ok (.iload_n 1, 1) := by decide +kernel
theorem dX4_otherwise_1 : decode cX4_otherwise 1 = .ok (.ifCond .lt 21, 3) := by decide +kernel
theorem dX4_otherwise_4 : decode cX4_otherwise 4 = .ok (.iload_n 1, 1) := by decide +kernel
theorem dX4_otherwise_5 : decode cX4_otherwise 5 = .ok (.aload_n 0, 1) := by decide +kernel
theorem dX4_otherwise_6 : decode cX4_otherwise 6 = .ok (.getfield 25, 3) := by decide +kernel
theorem dX4_otherwise_9 : decode cX4_otherwise 9 = .ok (.if_icmp .ge 13, 3) := by decide +kernel
theorem dX4_otherwise_12 : decode cX4_otherwise 12 = .ok (.aload_n 0, 1) := by decide +kernel
theorem dX4_otherwise_13 : decode cX4_otherwise 13 = .ok (.getfield 22, 3) := by decide +kernel
theorem dX4_otherwise_16 : decode cX4_otherwise 16 = .ok (.iload_n 1, 1) := by decide +kernel
theorem dX4_otherwise_17 : decode cX4_otherwise 17 = .ok (.aload_n 0, 1) := by decide +kernel
theorem dX4_otherwise_18 : decode cX4_otherwise 18 = .ok (.getfield 25, 3) := by decide +kernel
theorem dX4_otherwise_21 : decode cX4_otherwise 21 = .ok (.iastore, 1) := by decide +kernel
theorem dX4_otherwise_22 : decode cX4_otherwise 22 = .ok (.return_, 1) := by decide +kernel
theorem dX4_laneBy_0 : decode cX4_laneBy 0 = .ok (.iconst 0, 1) := by decide +kernel
theorem dX4_laneBy_1 : decode cX4_laneBy 1 = .ok (.istore_n 3, 1) := by decide +kernel
theorem dX4_laneBy_2 : decode cX4_laneBy 2 = .ok (.iconst 0, 1) := by decide +kernel
theorem dX4_laneBy_3 : decode cX4_laneBy 3 = .ok (.istore 4, 2) := by decide +kernel
theorem dX4_laneBy_5 : decode cX4_laneBy 5 = .ok (.iload 4, 2) := by decide +kernel
theorem dX4_laneBy_7 : decode cX4_laneBy 7 = .ok (.bipush 80, 2) := by decide +kernel
theorem dX4_laneBy_9 : decode cX4_laneBy 9 = .ok (.if_icmp .ge 80, 3) := by decide +kernel
theorem dX4_laneBy_12 : decode cX4_laneBy 12 = .ok (.iload_n 3, 1) := by decide +kernel
theorem dX4_laneBy_13 : decode cX4_laneBy 13 = .ok (.ifCond .lt 11, 3) := by decide +kernel
theorem dX4_laneBy_16 : decode cX4_laneBy 16 = .ok (.iload_n 3, 1) := by decide +kernel
theorem dX4_laneBy_17 : decode cX4_laneBy 17 = .ok (.aload_n 0, 1) := by decide +kernel
theorem dX4_laneBy_18 : decode cX4_laneBy 18 = .ok (.getfield 25, 3) := by decide +kernel
theorem dX4_laneBy_21 : decode cX4_laneBy 21 = .ok (.if_icmp .lt 5, 3) := by decide +kernel
theorem dX4_laneBy_24 : decode cX4_laneBy 24 = .ok (.iconst (-1), 1) := by decide +kernel
theorem dX4_laneBy_25 : decode cX4_laneBy 25 = .ok (.ireturn, 1) := by decide +kernel
theorem dX4_laneBy_26 : decode cX4_laneBy 26 = .ok (.aload_n 0, 1) := by decide +kernel
theorem dX4_laneBy_27 : decode cX4_laneBy 27 = .ok (.getfield 9, 3) := by decide +kernel
theorem dX4_laneBy_30 : decode cX4_laneBy 30 = .ok (.iload_n 3, 1) := by decide +kernel
theorem dX4_laneBy_31 : decode cX4_laneBy 31 = .ok (.caload, 1) := by decide +kernel
theorem dX4_laneBy_32 : decode cX4_laneBy 32 = .ok (.bipush 120, 2) := by decide +kernel
theorem dX4_laneBy_34 : decode cX4_laneBy 34 = .ok (.if_icmp .ne 10, 3) := by decide +kernel
theorem dX4_laneBy_37 : decode cX4_laneBy 37 = .ok (.aload_n 0, 1) := by decide +kernel
theorem dX4_laneBy_38 : decode cX4_laneBy 38 = .ok (.getfield 15, 3) := by decide +kernel
theorem dX4_laneBy_41 : decode cX4_laneBy 41 = .ok (.iload_n 3, 1) := by decide +kernel
theorem dX4_laneBy_42 : decode cX4_laneBy 42 = .ok (.iaload, 1) := by decide +kernel
theorem dX4_laneBy_43 : decode cX4_laneBy 43 = .ok (.ireturn, 1) := by decide +kernel
theorem dX4_laneBy_44 : decode cX4_laneBy 44 = .ok (.aload_n 0, 1) := by decide +kernel
theorem dX4_laneBy_45 : decode cX4_laneBy 45 = .ok (.getfield 9, 3) := by decide +kernel
theorem dX4_laneBy_48 : decode cX4_laneBy 48 = .ok (.iload_n 3, 1) := by decide +kernel
theorem dX4_laneBy_49 : decode cX4_laneBy 49 = .ok (.caload, 1) := by decide +kernel
theorem dX4_laneBy_50 : decode cX4_laneBy 50 = .ok (.aload_n 0, 1) := by decide +kernel
theorem dX4_laneBy_51 : decode cX4_laneBy 51 = .ok (.getfield 15, 3) := by decide +kernel
theorem dX4_laneBy_54 : decode cX4_laneBy 54 = .ok (.iload_n 3, 1) := by decide +kernel
theorem dX4_laneBy_55 : decode cX4_laneBy 55 = .ok (.iaload, 1) := by decide +kernel
theorem dX4_laneBy_56 : decode cX4_laneBy 56 = .ok (.aload_n 0, 1) := by decide +kernel
theorem dX4_laneBy_57 : decode cX4_laneBy 57 = .ok (.getfield 19, 3) := by decide +kernel
theorem dX4_laneBy_60 : decode cX4_laneBy 60 = .ok (.iload_n 3, 1) := by decide +kernel
theorem dX4_laneBy_61 : decode cX4_laneBy 61 = .ok (.iaload, 1) := by decide +kernel
theorem dX4_laneBy_62 : decode cX4_laneBy 62 = .ok (.iload_n 1, 1) := by decide +kernel
theorem dX4_laneBy_63 : decode cX4_laneBy 63 = .ok (.iload_n 2, 1) := by decide +kernel
theorem dX4_laneBy_64 : decode cX4_laneBy 64 = .ok (.invokestatic 36, 3) := by decide +kernel
theorem dX4_laneBy_67 : decode cX4_laneBy 67 = .ok (.ifCond .eq 9, 3) := by decide +kernel
theorem dX4_laneBy_70 : decode cX4_laneBy 70 = .ok (.iload_n 3, 1) := by decide +kernel
theorem dX4_laneBy_71 : decode cX4_laneBy 71 = .ok (.iconst 1, 1) := by decide +kernel
theorem dX4_laneBy_72 : decode cX4_laneBy 72 = .ok (.iadd, 1) := by decide +kernel
theorem dX4_laneBy_73 : decode cX4_laneBy 73 = .ok (.goto 9, 3) := by decide +kernel
theorem dX4_laneBy_76 : decode cX4_laneBy 76 = .ok (.aload_n 0, 1) := by decide +kernel
theorem dX4_laneBy_77 : decode cX4_laneBy 77 = .ok (.getfield 22, 3) := by decide +kernel
theorem dX4_laneBy_80 : decode cX4_laneBy 80 = .ok (.iload_n 3, 1) := by decide +kernel
theorem dX4_laneBy_81 : decode cX4_laneBy 81 = .ok (.iaload, 1) := by decide +kernel
theorem dX4_laneBy_82 : decode cX4_laneBy 82 = .ok (.istore_n 3, 1) := by decide +kernel
theorem dX4_laneBy_83 : decode cX4_laneBy 83 = .ok (.iinc 4 1, 3) := by decide +kernel
theorem dX4_laneBy_86 : decode cX4_laneBy 86 = .ok (.goto (-81), 3) := by decide +kernel
theorem dX4_laneBy_89 : decode cX4_laneBy 89 = .ok (.iconst (-1), 1) := by decide +kernel
theorem dX4_laneBy_90 : decode cX4_laneBy 90 = .ok (.ireturn, 1) := by decide +kernel
theorem dX4_holds_0 : decode cX4_holds 0 = .ok (.iload_n 0, 1) := by decide +kernel
theorem dX4_holds_1 : decode cX4_holds 1 = .ok (.lookupswitch 75 #[(99, 35), (108, 46), (109, 58)], 35) := by decide +kernel
theorem dX4_holds_36 : decode cX4_holds 36 = .ok (.iload_n 3, 1) := by decide +kernel
theorem dX4_holds_37 : decode cX4_holds 37 = .ok (.iload_n 1, 1) := by decide +kernel
theorem dX4_holds_38 : decode cX4_holds 38 = .ok (.if_icmp .ge 7, 3) := by decide +kernel
theorem dX4_holds_41 : decode cX4_holds 41 = .ok (.iconst 1, 1) := by decide +kernel
theorem dX4_holds_42 : decode cX4_holds 42 = .ok (.goto 4, 3) := by decide +kernel
theorem dX4_holds_45 : decode cX4_holds 45 = .ok (.iconst 0, 1) := by decide +kernel
theorem dX4_holds_46 : decode cX4_holds 46 = .ok (.ireturn, 1) := by decide +kernel
theorem dX4_holds_47 : decode cX4_holds 47 = .ok (.iload 4, 2) := by decide +kernel
theorem dX4_holds_49 : decode cX4_holds 49 = .ok (.iload_n 1, 1) := by decide +kernel
theorem dX4_holds_50 : decode cX4_holds 50 = .ok (.if_icmp .ge 7, 3) := by decide +kernel
theorem dX4_holds_53 : decode cX4_holds 53 = .ok (.iconst 1, 1) := by decide +kernel
theorem dX4_holds_54 : decode cX4_holds 54 = .ok (.goto 4, 3) := by decide +kernel
theorem dX4_holds_57 : decode cX4_holds 57 = .ok (.iconst 0, 1) := by decide +kernel
theorem dX4_holds_58 : decode cX4_holds 58 = .ok (.ireturn, 1) := by decide +kernel
theorem dX4_holds_59 : decode cX4_holds 59 = .ok (.iload_n 1, 1) := by decide +kernel
theorem dX4_holds_60 : decode cX4_holds 60 = .ok (.ifCond .eq 14, 3) := by decide +kernel
theorem dX4_holds_63 : decode cX4_holds 63 = .ok (.iload_n 3, 1) := by decide +kernel
theorem dX4_holds_64 : decode cX4_holds 64 = .ok (.iload_n 1, 1) := by decide +kernel
theorem dX4_holds_65 : decode cX4_holds 65 = .ok (.irem, 1) := by decide +kernel
theorem dX4_holds_66 : decode cX4_holds 66 = .ok (.iload_n 2, 1) := by decide +kernel
theorem dX4_holds_67 : decode cX4_holds 67 = .ok (.if_icmp .ne 7, 3) := by decide +kernel
theorem dX4_holds_70 : decode cX4_holds 70 = .ok (.iconst 1, 1) := by decide +kernel
theorem dX4_holds_71 : decode cX4_holds 71 = .ok (.goto 4, 3) := by decide +kernel
theorem dX4_holds_74 : decode cX4_holds 74 = .ok (.iconst 0, 1) := by decide +kernel
theorem dX4_holds_75 : decode cX4_holds 75 = .ok (.ireturn, 1) := by decide +kernel
theorem dX4_holds_76 : decode cX4_holds 76 = .ok (.iconst 0, 1) := by decide +kernel
theorem dX4_holds_77 : decode cX4_holds 77 = .ok (.ireturn, 1) := by decide +kernel
theorem dX5_init_0 : decode cX5_init 0 = .ok (.aload_n 0, 1) := by decide +kernel
theorem dX5_init_1 : decode cX5_init 1 = .ok (.invokespecial 3, 3) := by decide +kernel
theorem dX5_init_4 : decode cX5_init 4 = .ok (.aload_n 0, 1) := by decide +kernel
theorem dX5_init_5 : decode cX5_init 5 = .ok (.bipush 80, 2) := by decide +kernel
theorem dX5_init_7 : decode cX5_init 7 = .ok (.newarray .char, 2) := by decide +kernel
theorem dX5_init_9 : decode cX5_init 9 = .ok (.putfield 9, 3) := by decide +kernel
theorem dX5_init_12 : decode cX5_init 12 = .ok (.return_, 1) := by decide +kernel
theorem dX5_parseInto_0 : decode cX5_parseInto 0 = .ok (.aload_n 0, 1) := by decide +kernel
theorem dX5_parseInto_1 : decode cX5_parseInto 1 = .ok (.iconst 0, 1) := by decide +kernel
theorem dX5_parseInto_2 : decode cX5_parseInto 2 = .ok (.putfield 19, 3) := by decide +kernel
theorem dX5_parseInto_5 : decode cX5_parseInto 5 = .ok (.aload_n 1, 1) := by decide +kernel
theorem dX5_parseInto_6 : decode cX5_parseInto 6 = .ok (.invokevirtual 22, 3) := by decide +kernel
theorem dX5_parseInto_9 : decode cX5_parseInto 9 = .ok (.aload_n 0, 1) := by decide +kernel
theorem dX5_parseInto_10 : decode cX5_parseInto 10 = .ok (.aload_n 1, 1) := by decide +kernel
theorem dX5_parseInto_11 : decode cX5_parseInto 11 = .ok (.iconst 0, 1) := by decide +kernel
theorem dX5_parseInto_12 : decode cX5_parseInto 12 = .ok (.invokevirtual 27, 3) := by decide +kernel
theorem dX5_parseInto_15 : decode cX5_parseInto 15 = .ok (.ifCond .eq 18, 3) := by decide +kernel
theorem dX5_parseInto_18 : decode cX5_parseInto 18 = .ok (.aload_n 0, 1) := by decide +kernel
theorem dX5_parseInto_19 : decode cX5_parseInto 19 = .ok (.getfield 19, 3) := by decide +kernel
theorem dX5_parseInto_22 : decode cX5_parseInto 22 = .ok (.aload_n 0, 1) := by decide +kernel
theorem dX5_parseInto_23 : decode cX5_parseInto 23 = .ok (.getfield 15, 3) := by decide +kernel
theorem dX5_parseInto_26 : decode cX5_parseInto 26 = .ok (.if_icmp .ne 7, 3) := by decide +kernel
theorem dX5_parseInto_29 : decode cX5_parseInto 29 = .ok (.iconst (-1), 1) := by decide +kernel
theorem dX5_parseInto_30 : decode cX5_parseInto 30 = .ok (.goto 7, 3) := by decide +kernel
theorem dX5_parseInto_33 : decode cX5_parseInto 33 = .ok (.aload_n 0, 1) := by decide +kernel
theorem dX5_parseInto_34 : decode cX5_parseInto 34 = .ok (.getfield 19, 3) := by decide +kernel
theorem dX5_parseInto_37 : decode cX5_parseInto 37 = .ok (.ireturn, 1) := by decide +kernel
theorem dX5_takesRule_0 : decode cX5_takesRule 0 = .ok (.aload_n 0, 1) := by decide +kernel
theorem dX5_takesRule_1 : decode cX5_takesRule 1 = .ok (.invokevirtual 31, 3) := by decide +kernel
theorem dX5_takesRule_4 : decode cX5_takesRule 4 = .ok (.istore_n 3, 1) := by decide +kernel
theorem dX5_takesRule_5 : decode cX5_takesRule 5 = .ok (.iload_n 3, 1) := by decide +kernel
theorem dX5_takesRule_6 : decode cX5_takesRule 6 = .ok (.bipush 120, 2) := by decide +kernel
theorem dX5_takesRule_8 : decode cX5_takesRule 8 = .ok (.if_icmp .eq 15, 3) := by decide +kernel
theorem dX5_takesRule_11 : decode cX5_takesRule 11 = .ok (.iload_n 3, 1) := by decide +kernel
theorem dX5_takesRule_12 : decode cX5_takesRule 12 = .ok (.bipush 48, 2) := by decide +kernel
theorem dX5_takesRule_14 : decode cX5_takesRule 14 = .ok (.if_icmp .lt 39, 3) := by decide +kernel
theorem dX5_takesRule_17 : decode cX5_takesRule 17 = .ok (.iload_n 3, 1) := by decide +kernel
theorem dX5_takesRule_18 : decode cX5_takesRule 18 = .ok (.bipush 54, 2) := by decide +kernel
theorem dX5_takesRule_20 : decode cX5_takesRule 20 = .ok (.if_icmp .ge 33, 3) := by decide +kernel
theorem dX5_takesRule_23 : decode cX5_takesRule 23 = .ok (.aload_n 1, 1) := by decide +kernel
theorem dX5_takesRule_24 : decode cX5_takesRule 24 = .ok (.iload_n 3, 1) := by decide +kernel
theorem dX5_takesRule_25 : decode cX5_takesRule 25 = .ok (.bipush 120, 2) := by decide +kernel
theorem dX5_takesRule_27 : decode cX5_takesRule 27 = .ok (.if_icmp .ne 7, 3) := by decide +kernel
theorem dX5_takesRule_30 : decode cX5_takesRule 30 = .ok (.iconst (-1), 1) := by decide +kernel
theorem dX5_takesRule_31 : decode cX5_takesRule 31 = .ok (.goto 7, 3) := by decide +kernel
theorem dX5_takesRule_34 : decode cX5_takesRule 34 = .ok (.iload_n 3, 1) := by decide +kernel
theorem dX5_takesRule_35 : decode cX5_takesRule 35 = .ok (.bipush 48, 2) := by decide +kernel
theorem dX5_takesRule_37 : decode cX5_takesRule 37 = .ok (.isub, 1) := by decide +kernel
theorem dX5_takesRule_38 : decode cX5_takesRule 38 = .ok (.invokevirtual 35, 3) := by decide +kernel
theorem dX5_takesRule_41 : decode cX5_takesRule 41 = .ok (.aload_n 0, 1) := by decide +kernel
theorem dX5_takesRule_42 : decode cX5_takesRule 42 = .ok (.dup, 1) := by decide +kernel
theorem dX5_takesRule_43 : decode cX5_takesRule 43 = .ok (.getfield 19, 3) := by decide +kernel
theorem dX5_takesRule_46 : decode cX5_takesRule 46 = .ok (.iconst 1, 1) := by decide +kernel
theorem dX5_takesRule_47 : decode cX5_takesRule 47 = .ok (.iadd, 1) := by decide +kernel
theorem dX5_takesRule_48 : decode cX5_takesRule 48 = .ok (.putfield 19, 3) := by decide +kernel
theorem dX5_takesRule_51 : decode cX5_takesRule 51 = .ok (.iconst 1, 1) := by decide +kernel
theorem dX5_takesRule_52 : decode cX5_takesRule 52 = .ok (.ireturn, 1) := by decide +kernel
theorem dX5_takesRule_53 : decode cX5_takesRule 53 = .ok (.iload_n 2, 1) := by decide +kernel
theorem dX5_takesRule_54 : decode cX5_takesRule 54 = .ok (.bipush 6, 2) := by decide +kernel
theorem dX5_takesRule_56 : decode cX5_takesRule 56 = .ok (.if_icmp .ge 16, 3) := by decide +kernel
theorem dX5_takesRule_59 : decode cX5_takesRule 59 = .ok (.aload_n 0, 1) := by decide +kernel
theorem dX5_takesRule_60 : decode cX5_takesRule 60 = .ok (.aload_n 1, 1) := by decide +kernel
theorem dX5_takesRule_61 : decode cX5_takesRule 61 = .ok (.iload_n 2, 1) := by decide +kernel
theorem dX5_takesRule_62 : decode cX5_takesRule 62 = .ok (.invokevirtual 39, 3) := by decide +kernel
theorem dX5_takesRule_65 : decode cX5_takesRule 65 = .ok (.ifCond .eq 7, 3) := by decide +kernel
theorem dX5_takesRule_68 : decode cX5_takesRule 68 = .ok (.iconst 1, 1) := by decide +kernel
theorem dX5_takesRule_69 : decode cX5_takesRule 69 = .ok (.goto 4, 3) := by decide +kernel
theorem dX5_takesRule_72 : decode cX5_takesRule 72 = .ok (.iconst 0, 1) := by decide +kernel
theorem dX5_takesRule_73 : decode cX5_takesRule 73 = .ok (.ireturn, 1) := by decide +kernel
theorem dX5_takesChoice_0 : decode cX5_takesChoice 0 = .ok (.aload_n 0, 1) := by decide +kernel
theorem dX5_takesChoice_1 : decode cX5_takesChoice 1 = .ok (.bipush 63, 2) := by decide +kernel
theorem dX5_takesChoice_3 : decode cX5_takesChoice 3 = .ok (.invokevirtual 42, 3) := by decide +kernel
theorem dX5_takesChoice_6 : decode cX5_takesChoice 6 = .ok (.ifCond .ne 5, 3) := by decide +kernel
theorem dX5_takesChoice_9 : decode cX5_takesChoice 9 = .ok (.iconst 0, 1) := by decide +kernel
theorem dX5_takesChoice_10 : decode cX5_takesChoice 10 = .ok (.ireturn, 1) := by decide +kernel
theorem dX5_takesChoice_11 : decode cX5_takesChoice 11 = .ok (.aload_n 0, 1) := by decide +kernel
theorem dX5_takesChoice_12 : decode cX5_takesChoice 12 = .ok (.aload_n 1, 1) := by decide +kernel
theorem dX5_takesChoice_13 : decode cX5_takesChoice 13 = .ok (.invokevirtual 46, 3) := by decide +kernel
theorem dX5_takesChoice_16 : decode cX5_takesChoice 16 = .ok (.istore_n 3, 1) := by decide +kernel
theorem dX5_takesChoice_17 : decode cX5_takesChoice 17 = .ok (.iload_n 3, 1) := by decide +kernel
theorem dX5_takesChoice_18 : decode cX5_takesChoice 18 = .ok (.iconst (-1), 1) := by decide +kernel
theorem dX5_takesChoice_19 : decode cX5_takesChoice 19 = .ok (.if_icmp .eq 14, 3) := by decide +kernel
theorem dX5_takesChoice_22 : decode cX5_takesChoice 22 = .ok (.aload_n 0, 1) := by decide +kernel
theorem dX5_takesChoice_23 : decode cX5_takesChoice 23 = .ok (.aload_n 1, 1) := by decide +kernel
theorem dX5_takesChoice_24 : decode cX5_takesChoice 24 = .ok (.iload_n 2, 1) := by decide +kernel
theorem dX5_takesChoice_25 : decode cX5_takesChoice 25 = .ok (.iconst 1, 1) := by decide +kernel
theorem dX5_takesChoice_26 : decode cX5_takesChoice 26 = .ok (.iadd, 1) := by decide +kernel
theorem dX5_takesChoice_27 : decode cX5_takesChoice 27 = .ok (.invokevirtual 27, 3) := by decide +kernel
theorem dX5_takesChoice_30 : decode cX5_takesChoice 30 = .ok (.ifCond .ne 5, 3) := by decide +kernel
theorem dX5_takesChoice_33 : decode cX5_takesChoice 33 = .ok (.iconst 0, 1) := by decide +kernel
theorem dX5_takesChoice_34 : decode cX5_takesChoice 34 = .ok (.ireturn, 1) := by decide +kernel
theorem dX5_takesChoice_35 : decode cX5_takesChoice 35 = .ok (.aload_n 1, 1) := by decide +kernel
theorem dX5_takesChoice_36 : decode cX5_takesChoice 36 = .ok (.iload_n 3, 1) := by decide +kernel
theorem dX5_takesChoice_37 : decode cX5_takesChoice 37 = .ok (.invokevirtual 50, 3) := by decide +kernel
theorem dX5_takesChoice_40 : decode cX5_takesChoice 40 = .ok (.aload_n 0, 1) := by decide +kernel
theorem dX5_takesChoice_41 : decode cX5_takesChoice 41 = .ok (.aload_n 1, 1) := by decide +kernel
theorem dX5_takesChoice_42 : decode cX5_takesChoice 42 = .ok (.iload_n 2, 1) := by decide +kernel
theorem dX5_takesChoice_43 : decode cX5_takesChoice 43 = .ok (.iconst 1, 1) := by decide +kernel
theorem dX5_takesChoice_44 : decode cX5_takesChoice 44 = .ok (.iadd, 1) := by decide +kernel
theorem dX5_takesChoice_45 : decode cX5_takesChoice 45 = .ok (.invokevirtual 27, 3) := by decide +kernel
theorem dX5_takesChoice_48 : decode cX5_takesChoice 48 = .ok (.ireturn, 1) := by decide +kernel
theorem dX5_takeCondition_0 : decode cX5_takeCondition 0 = .ok (.aload_n 0, 1) := by decide +kernel
theorem dX5_takeCondition_1 : decode cX5_takeCondition 1 = .ok (.invokevirtual 31, 3) := by decide +kernel
theorem dX5_takeCondition_4 : decode cX5_takeCondition 4 = .ok (.istore_n 2, 1) := by decide +kernel
theorem dX5_takeCondition_5 : decode cX5_takeCondition 5 = .ok (.aload_n 0, 1) := by decide +kernel
theorem dX5_takeCondition_6 : decode cX5_takeCondition 6 = .ok (.bipush 99, 2) := by decide +kernel
theorem dX5_takeCondition_8 : decode cX5_takeCondition 8 = .ok (.invokevirtual 42, 3) := by decide +kernel
theorem dX5_takeCondition_11 : decode cX5_takeCondition 11 = .ok (.ifCond .ne 23, 3) := by decide +kernel
theorem dX5_takeCondition_14 : decode cX5_takeCondition 14 = .ok (.aload_n 0, 1) := by decide +kernel
theorem dX5_takeCondition_15 : decode cX5_takeCondition 15 = .ok (.bipush 108, 2) := by decide +kernel
theorem dX5_takeCondition_17 : decode cX5_takeCondition 17 = .ok (.invokevirtual 42, 3) := by decide +kernel
theorem dX5_takeCondition_20 : decode cX5_takeCondition 20 = .ok (.ifCond .ne 14, 3) := by decide +kernel
theorem dX5_takeCondition_23 : decode cX5_takeCondition 23 = .ok (.aload_n 0, 1) := by decide +kernel
theorem dX5_takeCondition_24 : decode cX5_takeCondition 24 = .ok (.bipush 109, 2) := by decide +kernel
theorem dX5_takeCondition_26 : decode cX5_takeCondition 26 = .ok (.invokevirtual 42, 3) := by decide +kernel
theorem dX5_takeCondition_29 : decode cX5_takeCondition 29 = .ok (.ifCond .ne 5, 3) := by decide +kernel
theorem dX5_takeCondition_32 : decode cX5_takeCondition 32 = .ok (.iconst (-1), 1) := by decide +kernel
theorem dX5_takeCondition_33 : decode cX5_takeCondition 33 = .ok (.ireturn, 1) := by decide +kernel
theorem dX5_takeCondition_34 : decode cX5_takeCondition 34 = .ok (.aload_n 0, 1) := by decide +kernel
theorem dX5_takeCondition_35 : decode cX5_takeCondition 35 = .ok (.invokevirtual 53, 3) := by decide +kernel
theorem dX5_takeCondition_38 : decode cX5_takeCondition 38 = .ok (.istore_n 3, 1) := by decide +kernel
theorem dX5_takeCondition_39 : decode cX5_takeCondition 39 = .ok (.iconst 0, 1) := by decide +kernel
theorem dX5_takeCondition_40 : decode cX5_takeCondition 40 = .ok (.istore 4, 2) := by decide +kernel
theorem dX5_takeCondition_42 : decode cX5_takeCondition 42 = .ok (.iload_n 2, 1) := by decide +kernel
theorem dX5_takeCondition_43 : decode cX5_takeCondition 43 = .ok (.bipush 109, 2) := by decide +kernel
theorem dX5_takeCondition_45 : decode cX5_takeCondition 45 = .ok (.if_icmp .ne 29, 3) := by decide +kernel
theorem dX5_takeCondition_48 : decode cX5_takeCondition 48 = .ok (.iload_n 3, 1) := by decide +kernel
theorem dX5_takeCondition_49 : decode cX5_takeCondition 49 = .ok (.ifCond .eq 17, 3) := by decide +kernel
theorem dX5_takeCondition_52 : decode cX5_takeCondition 52 = .ok (.iload_n 3, 1) := by decide +kernel
theorem dX5_takeCondition_53 : decode cX5_takeCondition 53 = .ok (.iconst (-1), 1) := by decide +kernel
theorem dX5_takeCondition_54 : decode cX5_takeCondition 54 = .ok (.if_icmp .eq 12, 3) := by decide +kernel
theorem dX5_takeCondition_57 : decode cX5_takeCondition 57 = .ok (.aload_n 0, 1) := by decide +kernel
theorem dX5_takeCondition_58 : decode cX5_takeCondition 58 = .ok (.bipush 44, 2) := by decide +kernel
theorem dX5_takeCondition_60 : decode cX5_takeCondition 60 = .ok (.invokevirtual 42, 3) := by decide +kernel
theorem dX5_takeCondition_63 : decode cX5_takeCondition 63 = .ok (.ifCond .ne 5, 3) := by decide +kernel
theorem dX5_takeCondition_66 : decode cX5_takeCondition 66 = .ok (.iconst (-1), 1) := by decide +kernel
theorem dX5_takeCondition_67 : decode cX5_takeCondition 67 = .ok (.ireturn, 1) := by decide +kernel
theorem dX5_takeCondition_68 : decode cX5_takeCondition 68 = .ok (.aload_n 0, 1) := by decide +kernel
theorem dX5_takeCondition_69 : decode cX5_takeCondition 69 = .ok (.invokevirtual 53, 3) := by decide +kernel
theorem dX5_takeCondition_72 : decode cX5_takeCondition 72 = .ok (.istore 4, 2) := by decide +kernel
theorem dX5_takeCondition_74 : decode cX5_takeCondition 74 = .ok (.iload_n 3, 1) := by decide +kernel
theorem dX5_takeCondition_75 : decode cX5_takeCondition 75 = .ok (.iconst (-1), 1) := by decide +kernel
theorem dX5_takeCondition_76 : decode cX5_takeCondition 76 = .ok (.if_icmp .eq 18, 3) := by decide +kernel
theorem dX5_takeCondition_79 : decode cX5_takeCondition 79 = .ok (.iload 4, 2) := by decide +kernel
theorem dX5_takeCondition_81 : decode cX5_takeCondition 81 = .ok (.iconst (-1), 1) := by decide +kernel
theorem dX5_takeCondition_82 : decode cX5_takeCondition 82 = .ok (.if_icmp .eq 12, 3) := by decide +kernel
theorem dX5_takeCondition_85 : decode cX5_takeCondition 85 = .ok (.aload_n 0, 1) := by decide +kernel
theorem dX5_takeCondition_86 : decode cX5_takeCondition 86 = .ok (.bipush 59, 2) := by decide +kernel
theorem dX5_takeCondition_88 : decode cX5_takeCondition 88 = .ok (.invokevirtual 42, 3) := by decide +kernel
theorem dX5_takeCondition_91 : decode cX5_takeCondition 91 = .ok (.ifCond .ne 5, 3) := by decide +kernel
theorem dX5_takeCondition_94 : decode cX5_takeCondition 94 = .ok (.iconst (-1), 1) := by decide +kernel
theorem dX5_takeCondition_95 : decode cX5_takeCondition 95 = .ok (.ireturn, 1) := by decide +kernel
theorem dX5_takeCondition_96 : decode cX5_takeCondition 96 = .ok (.aload_n 1, 1) := by decide +kernel
theorem dX5_takeCondition_97 : decode cX5_takeCondition 97 = .ok (.iload_n 2, 1) := by decide +kernel
theorem dX5_takeCondition_98 : decode cX5_takeCondition 98 = .ok (.iload_n 3, 1) := by decide +kernel
theorem dX5_takeCondition_99 : decode cX5_takeCondition 99 = .ok (.iload 4, 2) := by decide +kernel
theorem dX5_takeCondition_101 : decode cX5_takeCondition 101 = .ok (.invokevirtual 56, 3) := by decide +kernel
theorem dX5_takeCondition_104 : decode cX5_takeCondition 104 = .ok (.ireturn, 1) := by decide +kernel
theorem dX5_takeNumber_0 : decode cX5_takeNumber 0 = .ok (.iconst (-1), 1) := by decide +kernel
theorem dX5_takeNumber_1 : decode cX5_takeNumber 1 = .ok (.istore_n 1, 1) := by decide +kernel
theorem dX5_takeNumber_2 : decode cX5_takeNumber 2 = .ok (.iconst 0, 1) := by decide +kernel
theorem dX5_takeNumber_3 : decode cX5_takeNumber 3 = .ok (.istore_n 2, 1) := by decide +kernel
theorem dX5_takeNumber_4 : decode cX5_takeNumber 4 = .ok (.iload_n 2, 1) := by decide +kernel
theorem dX5_takeNumber_5 : decode cX5_takeNumber 5 = .ok (.iconst 3, 1) := by decide +kernel
theorem dX5_takeNumber_6 : decode cX5_takeNumber 6 = .ok (.if_icmp .ge 57, 3) := by decide +kernel
theorem dX5_takeNumber_9 : decode cX5_takeNumber 9 = .ok (.aload_n 0, 1) := by decide +kernel
theorem dX5_takeNumber_10 : decode cX5_takeNumber 10 = .ok (.invokevirtual 31, 3) := by decide +kernel
theorem dX5_takeNumber_13 : decode cX5_takeNumber 13 = .ok (.istore_n 3, 1) := by decide +kernel
theorem dX5_takeNumber_14 : decode cX5_takeNumber 14 = .ok (.iload_n 3, 1) := by decide +kernel
theorem dX5_takeNumber_15 : decode cX5_takeNumber 15 = .ok (.bipush 48, 2) := by decide +kernel
theorem dX5_takeNumber_17 : decode cX5_takeNumber 17 = .ok (.if_icmp .lt 46, 3) := by decide +kernel
theorem dX5_takeNumber_20 : decode cX5_takeNumber 20 = .ok (.iload_n 3, 1) := by decide +kernel
theorem dX5_takeNumber_21 : decode cX5_takeNumber 21 = .ok (.bipush 57, 2) := by decide +kernel
theorem dX5_takeNumber_23 : decode cX5_takeNumber 23 = .ok (.if_icmp .le 6, 3) := by decide +kernel
theorem dX5_takeNumber_26 : decode cX5_takeNumber 26 = .ok (.goto 37, 3) := by decide +kernel
theorem dX5_takeNumber_29 : decode cX5_takeNumber 29 = .ok (.iload_n 2, 1) := by decide +kernel
theorem dX5_takeNumber_30 : decode cX5_takeNumber 30 = .ok (.ifCond .ne 7, 3) := by decide +kernel
theorem dX5_takeNumber_33 : decode cX5_takeNumber 33 = .ok (.iconst 0, 1) := by decide +kernel
theorem dX5_takeNumber_34 : decode cX5_takeNumber 34 = .ok (.goto 7, 3) := by decide +kernel
theorem dX5_takeNumber_37 : decode cX5_takeNumber 37 = .ok (.bipush 10, 2) := by decide +kernel
theorem dX5_takeNumber_39 : decode cX5_takeNumber 39 = .ok (.iload_n 1, 1) := by decide +kernel
theorem dX5_takeNumber_40 : decode cX5_takeNumber 40 = .ok (.imul, 1) := by decide +kernel
theorem dX5_takeNumber_41 : decode cX5_takeNumber 41 = .ok (.iload_n 3, 1) := by decide +kernel
theorem dX5_takeNumber_42 : decode cX5_takeNumber 42 = .ok (.iadd, 1) := by decide +kernel
theorem dX5_takeNumber_43 : decode cX5_takeNumber 43 = .ok (.bipush 48, 2) := by decide +kernel
theorem dX5_takeNumber_45 : decode cX5_takeNumber 45 = .ok (.isub, 1) := by decide +kernel
theorem dX5_takeNumber_46 : decode cX5_takeNumber 46 = .ok (.istore_n 1, 1) := by decide +kernel
theorem dX5_takeNumber_47 : decode cX5_takeNumber 47 = .ok (.aload_n 0, 1) := by decide +kernel
theorem dX5_takeNumber_48 : decode cX5_takeNumber 48 = .ok (.dup, 1) := by decide +kernel
theorem dX5_takeNumber_49 : decode cX5_takeNumber 49 = .ok (.getfield 19, 3) := by decide +kernel
theorem dX5_takeNumber_52 : decode cX5_takeNumber 52 = .ok (.iconst 1, 1) := by decide +kernel
theorem dX5_takeNumber_53 : decode cX5_takeNumber 53 = .ok (.iadd, 1) := by decide +kernel
theorem dX5_takeNumber_54 : decode cX5_takeNumber 54 = .ok (.putfield 19, 3) := by decide +kernel
theorem dX5_takeNumber_57 : decode cX5_takeNumber 57 = .ok (.iinc 2 1, 3) := by decide +kernel
theorem dX5_takeNumber_60 : decode cX5_takeNumber 60 = .ok (.goto (-56), 3) := by decide +kernel
theorem dX5_takeNumber_63 : decode cX5_takeNumber 63 = .ok (.iload_n 1, 1) := by decide +kernel
theorem dX5_takeNumber_64 : decode cX5_takeNumber 64 = .ok (.ireturn, 1) := by decide +kernel
theorem dX5_takesSign_0 : decode cX5_takesSign 0 = .ok (.aload_n 0, 1) := by decide +kernel
theorem dX5_takesSign_1 : decode cX5_takesSign 1 = .ok (.invokevirtual 31, 3) := by decide +kernel
theorem dX5_takesSign_4 : decode cX5_takesSign 4 = .ok (.iload_n 1, 1) := by decide +kernel
theorem dX5_takesSign_5 : decode cX5_takesSign 5 = .ok (.if_icmp .eq 5, 3) := by decide +kernel
theorem dX5_takesSign_8 : decode cX5_takesSign 8 = .ok (.iconst 0, 1) := by decide +kernel
theorem dX5_takesSign_9 : decode cX5_takesSign 9 = .ok (.ireturn, 1) := by decide +kernel
theorem dX5_takesSign_10 : decode cX5_takesSign 10 = .ok (.aload_n 0, 1) := by decide +kernel
theorem dX5_takesSign_11 : decode cX5_takesSign 11 = .ok (.dup, 1) := by decide +kernel
theorem dX5_takesSign_12 : decode cX5_takesSign 12 = .ok (.getfield 19, 3) := by decide +kernel
theorem dX5_takesSign_15 : decode cX5_takesSign 15 = .ok (.iconst 1, 1) := by decide +kernel
theorem dX5_takesSign_16 : decode cX5_takesSign 16 = .ok (.iadd, 1) := by decide +kernel
theorem dX5_takesSign_17 : decode cX5_takesSign 17 = .ok (.putfield 19, 3) := by decide +kernel
theorem dX5_takesSign_20 : decode cX5_takesSign 20 = .ok (.iconst 1, 1) := by decide +kernel
theorem dX5_takesSign_21 : decode cX5_takesSign 21 = .ok (.ireturn, 1) := by decide +kernel
theorem dX5_nextSign_0 : decode cX5_nextSign 0 = .ok (.aload_n 0, 1) := by decide +kernel
theorem dX5_nextSign_1 : decode cX5_nextSign 1 = .ok (.getfield 19, 3) := by decide +kernel
theorem dX5_nextSign_4 : decode cX5_nextSign 4 = .ok (.ifCond .lt 35, 3) := by decide +kernel
theorem dX5_nextSign_7 : decode cX5_nextSign 7 = .ok (.aload_n 0, 1) := by decide +kernel
theorem dX5_nextSign_8 : decode cX5_nextSign 8 = .ok (.getfield 19, 3) := by decide +kernel
theorem dX5_nextSign_11 : decode cX5_nextSign 11 = .ok (.aload_n 0, 1) := by decide +kernel
theorem dX5_nextSign_12 : decode cX5_nextSign 12 = .ok (.getfield 15, 3) := by decide +kernel
theorem dX5_nextSign_15 : decode cX5_nextSign 15 = .ok (.if_icmp .ge 24, 3) := by decide +kernel
theorem dX5_nextSign_18 : decode cX5_nextSign 18 = .ok (.aload_n 0, 1) := by decide +kernel
theorem dX5_nextSign_19 : decode cX5_nextSign 19 = .ok (.getfield 19, 3) := by decide +kernel
theorem dX5_nextSign_22 : decode cX5_nextSign 22 = .ok (.bipush 80, 2) := by decide +kernel
theorem dX5_nextSign_24 : decode cX5_nextSign 24 = .ok (.if_icmp .ge 15, 3) := by decide +kernel
theorem dX5_nextSign_27 : decode cX5_nextSign 27 = .ok (.aload_n 0, 1) := by decide +kernel
theorem dX5_nextSign_28 : decode cX5_nextSign 28 = .ok (.getfield 9, 3) := by decide +kernel
theorem dX5_nextSign_31 : decode cX5_nextSign 31 = .ok (.aload_n 0, 1) := by decide +kernel
theorem dX5_nextSign_32 : decode cX5_nextSign 32 = .ok (.getfield 19, 3) := by decide +kernel
theorem dX5_nextSign_35 : decode cX5_nextSign 35 = .ok (.caload, 1) := by decide +kernel
theorem dX5_nextSign_36 : decode cX5_nextSign 36 = .ok (.goto 4, 3) := by decide +kernel
theorem dX5_nextSign_39 : decode cX5_nextSign 39 = .ok (.iconst (-1), 1) := by decide +kernel
theorem dX5_nextSign_40 : decode cX5_nextSign 40 = .ok (.ireturn, 1) := by decide +kernel
theorem dX6_init_0 : decode cX6_init 0 = .ok (.aload_n 0, 1) := by decide +kernel
theorem dX6_init_1 : decode cX6_init 1 = .ok (.invokespecial 3, 3) := by decide +kernel
theorem dX6_init_4 : decode cX6_init 4 = .ok (.aload_n 0, 1) := by decide +kernel
theorem dX6_init_5 : decode cX6_init 5 = .ok (.getstatic 9, 3) := by decide +kernel
theorem dX6_init_8 : decode cX6_init 8 = .ok (.invokevirtual 13, 3) := by decide +kernel
theorem dX6_init_11 : decode cX6_init 11 = .ok (.checkcast 14, 3) := by decide +kernel
theorem dX6_init_14 : decode cX6_init 14 = .ok (.putfield 18, 3) := by decide +kernel
theorem dX6_init_17 : decode cX6_init 17 = .ok (.aload_n 0, 1) := by decide +kernel
theorem dX6_init_18 : decode cX6_init 18 = .ok (.bipush 6, 2) := by decide +kernel
theorem dX6_init_20 : decode cX6_init 20 = .ok (.anewarray 23, 3) := by decide +kernel
theorem dX6_init_23 : decode cX6_init 23 = .ok (.putfield 25, 3) := by decide +kernel
theorem dX6_init_26 : decode cX6_init 26 = .ok (.aload_n 0, 1) := by decide +kernel
theorem dX6_init_27 : decode cX6_init 27 = .ok (.new 29, 3) := by decide +kernel
theorem dX6_init_30 : decode cX6_init 30 = .ok (.dup, 1) := by decide +kernel
theorem dX6_init_31 : decode cX6_init 31 = .ok (.invokespecial 31, 3) := by decide +kernel
theorem dX6_init_34 : decode cX6_init 34 = .ok (.putfield 32, 3) := by decide +kernel
theorem dX6_init_37 : decode cX6_init 37 = .ok (.aload_n 0, 1) := by decide +kernel
theorem dX6_init_38 : decode cX6_init 38 = .ok (.bipush 20, 2) := by decide +kernel
theorem dX6_init_40 : decode cX6_init 40 = .ok (.anewarray 36, 3) := by decide +kernel
theorem dX6_init_43 : decode cX6_init 43 = .ok (.putfield 38, 3) := by decide +kernel
theorem dX6_init_46 : decode cX6_init 46 = .ok (.aload_n 0, 1) := by decide +kernel
theorem dX6_init_47 : decode cX6_init 47 = .ok (.aload_n 1, 1) := by decide +kernel
theorem dX6_init_48 : decode cX6_init 48 = .ok (.putfield 42, 3) := by decide +kernel
theorem dX6_init_51 : decode cX6_init 51 = .ok (.iconst 0, 1) := by decide +kernel
theorem dX6_init_52 : decode cX6_init 52 = .ok (.istore_n 2, 1) := by decide +kernel
theorem dX6_init_53 : decode cX6_init 53 = .ok (.iload_n 2, 1) := by decide +kernel
theorem dX6_init_54 : decode cX6_init 54 = .ok (.bipush 6, 2) := by decide +kernel
theorem dX6_init_56 : decode cX6_init 56 = .ok (.if_icmp .ge 22, 3) := by decide +kernel
theorem dX6_init_59 : decode cX6_init 59 = .ok (.aload_n 0, 1) := by decide +kernel
theorem dX6_init_60 : decode cX6_init 60 = .ok (.getfield 25, 3) := by decide +kernel
theorem dX6_init_63 : decode cX6_init 63 = .ok (.iload_n 2, 1) := by decide +kernel
theorem dX6_init_64 : decode cX6_init 64 = .ok (.new 23, 3) := by decide +kernel
theorem dX6_init_67 : decode cX6_init 67 = .ok (.dup, 1) := by decide +kernel
theorem dX6_init_68 : decode cX6_init 68 = .ok (.invokespecial 46, 3) := by decide +kernel
theorem dX6_init_71 : decode cX6_init 71 = .ok (.aastore, 1) := by decide +kernel
theorem dX6_init_72 : decode cX6_init 72 = .ok (.iinc 2 1, 3) := by decide +kernel
theorem dX6_init_75 : decode cX6_init 75 = .ok (.goto (-22), 3) := by decide +kernel
theorem dX6_init_78 : decode cX6_init 78 = .ok (.iconst 0, 1) := by decide +kernel
theorem dX6_init_79 : decode cX6_init 79 = .ok (.istore_n 2, 1) := by decide +kernel
theorem dX6_init_80 : decode cX6_init 80 = .ok (.iload_n 2, 1) := by decide +kernel
theorem dX6_init_81 : decode cX6_init 81 = .ok (.bipush 20, 2) := by decide +kernel
theorem dX6_init_83 : decode cX6_init 83 = .ok (.if_icmp .ge 22, 3) := by decide +kernel
theorem dX6_init_86 : decode cX6_init 86 = .ok (.aload_n 0, 1) := by decide +kernel
theorem dX6_init_87 : decode cX6_init 87 = .ok (.getfield 38, 3) := by decide +kernel
theorem dX6_init_90 : decode cX6_init 90 = .ok (.iload_n 2, 1) := by decide +kernel
theorem dX6_init_91 : decode cX6_init 91 = .ok (.new 36, 3) := by decide +kernel
theorem dX6_init_94 : decode cX6_init 94 = .ok (.dup, 1) := by decide +kernel
theorem dX6_init_95 : decode cX6_init 95 = .ok (.invokespecial 47, 3) := by decide +kernel
theorem dX6_init_98 : decode cX6_init 98 = .ok (.aastore, 1) := by decide +kernel
theorem dX6_init_99 : decode cX6_init 99 = .ok (.iinc 2 1, 3) := by decide +kernel
theorem dX6_init_102 : decode cX6_init 102 = .ok (.goto (-22), 3) := by decide +kernel
theorem dX6_init_105 : decode cX6_init 105 = .ok (.return_, 1) := by decide +kernel
theorem dX6_copyFrom_0 : decode cX6_copyFrom 0 = .ok (.aload_n 1, 1) := by decide +kernel
theorem dX6_copyFrom_1 : decode cX6_copyFrom 1 = .ok (.getfield 18, 3) := by decide +kernel
theorem dX6_copyFrom_4 : decode cX6_copyFrom 4 = .ok (.iconst 0, 1) := by decide +kernel
theorem dX6_copyFrom_5 : decode cX6_copyFrom 5 = .ok (.aload_n 0, 1) := by decide +kernel
theorem dX6_copyFrom_6 : decode cX6_copyFrom 6 = .ok (.getfield 18, 3) := by decide +kernel
theorem dX6_copyFrom_9 : decode cX6_copyFrom 9 = .ok (.iconst 0, 1) := by decide +kernel
theorem dX6_copyFrom_10 : decode cX6_copyFrom 10 = .ok (.bipush 6, 2) := by decide +kernel
theorem dX6_copyFrom_12 : decode cX6_copyFrom 12 = .ok (.invokestatic 48, 3) := by decide +kernel
theorem dX6_copyFrom_15 : decode cX6_copyFrom 15 = .ok (.aload_n 0, 1) := by decide +kernel
theorem dX6_copyFrom_16 : decode cX6_copyFrom 16 = .ok (.aload_n 1, 1) := by decide +kernel
theorem dX6_copyFrom_17 : decode cX6_copyFrom 17 = .ok (.getfield 54, 3) := by decide +kernel
theorem dX6_copyFrom_20 : decode cX6_copyFrom 20 = .ok (.putfield 54, 3) := by decide +kernel
theorem dX6_copyFrom_23 : decode cX6_copyFrom 23 = .ok (.iconst 0, 1) := by decide +kernel
theorem dX6_copyFrom_24 : decode cX6_copyFrom 24 = .ok (.istore_n 2, 1) := by decide +kernel
theorem dX6_copyFrom_25 : decode cX6_copyFrom 25 = .ok (.iload_n 2, 1) := by decide +kernel
theorem dX6_copyFrom_26 : decode cX6_copyFrom 26 = .ok (.bipush 6, 2) := by decide +kernel
theorem dX6_copyFrom_28 : decode cX6_copyFrom 28 = .ok (.if_icmp .ge 24, 3) := by decide +kernel
theorem dX6_copyFrom_31 : decode cX6_copyFrom 31 = .ok (.aload_n 0, 1) := by decide +kernel
theorem dX6_copyFrom_32 : decode cX6_copyFrom 32 = .ok (.getfield 25, 3) := by decide +kernel
theorem dX6_copyFrom_35 : decode cX6_copyFrom 35 = .ok (.iload_n 2, 1) := by decide +kernel
theorem dX6_copyFrom_36 : decode cX6_copyFrom 36 = .ok (.aaload, 1) := by decide +kernel
theorem dX6_copyFrom_37 : decode cX6_copyFrom 37 = .ok (.aload_n 1, 1) := by decide +kernel
theorem dX6_copyFrom_38 : decode cX6_copyFrom 38 = .ok (.getfield 25, 3) := by decide +kernel
theorem dX6_copyFrom_41 : decode cX6_copyFrom 41 = .ok (.iload_n 2, 1) := by decide +kernel
theorem dX6_copyFrom_42 : decode cX6_copyFrom 42 = .ok (.aaload, 1) := by decide +kernel
theorem dX6_copyFrom_43 : decode cX6_copyFrom 43 = .ok (.invokevirtual 58, 3) := by decide +kernel
theorem dX6_copyFrom_46 : decode cX6_copyFrom 46 = .ok (.iinc 2 1, 3) := by decide +kernel
theorem dX6_copyFrom_49 : decode cX6_copyFrom 49 = .ok (.goto (-24), 3) := by decide +kernel
theorem dX6_copyFrom_52 : decode cX6_copyFrom 52 = .ok (.aload_n 0, 1) := by decide +kernel
theorem dX6_copyFrom_53 : decode cX6_copyFrom 53 = .ok (.getfield 32, 3) := by decide +kernel
theorem dX6_copyFrom_56 : decode cX6_copyFrom 56 = .ok (.aload_n 1, 1) := by decide +kernel
theorem dX6_copyFrom_57 : decode cX6_copyFrom 57 = .ok (.getfield 32, 3) := by decide +kernel
theorem dX6_copyFrom_60 : decode cX6_copyFrom 60 = .ok (.invokevirtual 62, 3) := by decide +kernel
theorem dX6_copyFrom_63 : decode cX6_copyFrom 63 = .ok (.aload_n 0, 1) := by decide +kernel
theorem dX6_copyFrom_64 : decode cX6_copyFrom 64 = .ok (.aload_n 1, 1) := by decide +kernel
theorem dX6_copyFrom_65 : decode cX6_copyFrom 65 = .ok (.getfield 42, 3) := by decide +kernel
theorem dX6_copyFrom_68 : decode cX6_copyFrom 68 = .ok (.putfield 42, 3) := by decide +kernel
theorem dX6_copyFrom_71 : decode cX6_copyFrom 71 = .ok (.aload_n 0, 1) := by decide +kernel
theorem dX6_copyFrom_72 : decode cX6_copyFrom 72 = .ok (.aload_n 1, 1) := by decide +kernel
theorem dX6_copyFrom_73 : decode cX6_copyFrom 73 = .ok (.getfield 65, 3) := by decide +kernel
theorem dX6_copyFrom_76 : decode cX6_copyFrom 76 = .ok (.putfield 65, 3) := by decide +kernel
theorem dX6_copyFrom_79 : decode cX6_copyFrom 79 = .ok (.iconst 0, 1) := by decide +kernel
theorem dX6_copyFrom_80 : decode cX6_copyFrom 80 = .ok (.istore_n 2, 1) := by decide +kernel
theorem dX6_copyFrom_81 : decode cX6_copyFrom 81 = .ok (.iload_n 2, 1) := by decide +kernel
theorem dX6_copyFrom_82 : decode cX6_copyFrom 82 = .ok (.bipush 20, 2) := by decide +kernel
theorem dX6_copyFrom_84 : decode cX6_copyFrom 84 = .ok (.if_icmp .ge 24, 3) := by decide +kernel
theorem dX6_copyFrom_87 : decode cX6_copyFrom 87 = .ok (.aload_n 0, 1) := by decide +kernel
theorem dX6_copyFrom_88 : decode cX6_copyFrom 88 = .ok (.getfield 38, 3) := by decide +kernel
theorem dX6_copyFrom_91 : decode cX6_copyFrom 91 = .ok (.iload_n 2, 1) := by decide +kernel
theorem dX6_copyFrom_92 : decode cX6_copyFrom 92 = .ok (.aaload, 1) := by decide +kernel
theorem dX6_copyFrom_93 : decode cX6_copyFrom 93 = .ok (.aload_n 1, 1) := by decide +kernel
theorem dX6_copyFrom_94 : decode cX6_copyFrom 94 = .ok (.getfield 38, 3) := by decide +kernel
theorem dX6_copyFrom_97 : decode cX6_copyFrom 97 = .ok (.iload_n 2, 1) := by decide +kernel
theorem dX6_copyFrom_98 : decode cX6_copyFrom 98 = .ok (.aaload, 1) := by decide +kernel
theorem dX6_copyFrom_99 : decode cX6_copyFrom 99 = .ok (.invokevirtual 68, 3) := by decide +kernel
theorem dX6_copyFrom_102 : decode cX6_copyFrom 102 = .ok (.iinc 2 1, 3) := by decide +kernel
theorem dX6_copyFrom_105 : decode cX6_copyFrom 105 = .ok (.goto (-24), 3) := by decide +kernel
theorem dX6_copyFrom_108 : decode cX6_copyFrom 108 = .ok (.aload_n 0, 1) := by decide +kernel
theorem dX6_copyFrom_109 : decode cX6_copyFrom 109 = .ok (.aload_n 1, 1) := by decide +kernel
theorem dX6_copyFrom_110 : decode cX6_copyFrom 110 = .ok (.getfield 71, 3) := by decide +kernel
theorem dX6_copyFrom_113 : decode cX6_copyFrom 113 = .ok (.putfield 71, 3) := by decide +kernel
theorem dX6_copyFrom_116 : decode cX6_copyFrom 116 = .ok (.aload_n 0, 1) := by decide +kernel
theorem dX6_copyFrom_117 : decode cX6_copyFrom 117 = .ok (.aload_n 1, 1) := by decide +kernel
theorem dX6_copyFrom_118 : decode cX6_copyFrom 118 = .ok (.getfield 74, 3) := by decide +kernel
theorem dX6_copyFrom_121 : decode cX6_copyFrom 121 = .ok (.putfield 74, 3) := by decide +kernel
theorem dX6_copyFrom_124 : decode cX6_copyFrom 124 = .ok (.aload_n 0, 1) := by decide +kernel
theorem dX6_copyFrom_125 : decode cX6_copyFrom 125 = .ok (.aload_n 1, 1) := by decide +kernel
theorem dX6_copyFrom_126 : decode cX6_copyFrom 126 = .ok (.getfield 77, 3) := by decide +kernel
theorem dX6_copyFrom_129 : decode cX6_copyFrom 129 = .ok (.putfield 77, 3) := by decide +kernel
theorem dX6_copyFrom_132 : decode cX6_copyFrom 132 = .ok (.return_, 1) := by decide +kernel
theorem dX6_hasLane_0 : decode cX6_hasLane 0 = .ok (.iload_n 1, 1) := by decide +kernel
theorem dX6_hasLane_1 : decode cX6_hasLane 1 = .ok (.ifCond .lt 15, 3) := by decide +kernel
theorem dX6_hasLane_4 : decode cX6_hasLane 4 = .ok (.iload_n 1, 1) := by decide +kernel
theorem dX6_hasLane_5 : decode cX6_hasLane 5 = .ok (.aload_n 0, 1) := by decide +kernel
theorem dX6_hasLane_6 : decode cX6_hasLane 6 = .ok (.getfield 54, 3) := by decide +kernel
theorem dX6_hasLane_9 : decode cX6_hasLane 9 = .ok (.if_icmp .ge 7, 3) := by decide +kernel
theorem dX6_hasLane_12 : decode cX6_hasLane 12 = .ok (.iconst 1, 1) := by decide +kernel
theorem dX6_hasLane_13 : decode cX6_hasLane 13 = .ok (.goto 4, 3) := by decide +kernel
theorem dX6_hasLane_16 : decode cX6_hasLane 16 = .ok (.iconst 0, 1) := by decide +kernel
theorem dX6_hasLane_17 : decode cX6_hasLane 17 = .ok (.ireturn, 1) := by decide +kernel
theorem dX6_placeOf_0 : decode cX6_placeOf 0 = .ok (.iconst 0, 1) := by decide +kernel
theorem dX6_placeOf_1 : decode cX6_placeOf 1 = .ok (.istore_n 2, 1) := by decide +kernel
theorem dX6_placeOf_2 : decode cX6_placeOf 2 = .ok (.iload_n 2, 1) := by decide +kernel
theorem dX6_placeOf_3 : decode cX6_placeOf 3 = .ok (.aload_n 0, 1) := by decide +kernel
theorem dX6_placeOf_4 : decode cX6_placeOf 4 = .ok (.getfield 65, 3) := by decide +kernel
theorem dX6_placeOf_7 : decode cX6_placeOf 7 = .ok (.if_icmp .ge 24, 3) := by decide +kernel
theorem dX6_placeOf_10 : decode cX6_placeOf 10 = .ok (.aload_n 0, 1) := by decide +kernel
theorem dX6_placeOf_11 : decode cX6_placeOf 11 = .ok (.getfield 38, 3) := by decide +kernel
theorem dX6_placeOf_14 : decode cX6_placeOf 14 = .ok (.iload_n 2, 1) := by decide +kernel
theorem dX6_placeOf_15 : decode cX6_placeOf 15 = .ok (.aaload, 1) := by decide +kernel
theorem dX6_placeOf_16 : decode cX6_placeOf 16 = .ok (.getfield 80, 3) := by decide +kernel
theorem dX6_placeOf_19 : decode cX6_placeOf 19 = .ok (.iload_n 1, 1) := by decide +kernel
theorem dX6_placeOf_20 : decode cX6_placeOf 20 = .ok (.if_icmp .ne 5, 3) := by decide +kernel
theorem dX6_placeOf_23 : decode cX6_placeOf 23 = .ok (.iload_n 2, 1) := by decide +kernel
theorem dX6_placeOf_24 : decode cX6_placeOf 24 = .ok (.ireturn, 1) := by decide +kernel
theorem dX6_placeOf_25 : decode cX6_placeOf 25 = .ok (.iinc 2 1, 3) := by decide +kernel
theorem dX6_placeOf_28 : decode cX6_placeOf 28 = .ok (.goto (-26), 3) := by decide +kernel
theorem dX6_placeOf_31 : decode cX6_placeOf 31 = .ok (.iconst (-1), 1) := by decide +kernel
theorem dX6_placeOf_32 : decode cX6_placeOf 32 = .ok (.ireturn, 1) := by decide +kernel
theorem dX6_gapBetween_0 : decode cX6_gapBetween 0 = .ok (.aload_n 0, 1) := by decide +kernel
theorem dX6_gapBetween_1 : decode cX6_gapBetween 1 = .ok (.getfield 38, 3) := by decide +kernel
theorem dX6_gapBetween_4 : decode cX6_gapBetween 4 = .ok (.iload_n 1, 1) := by decide +kernel
theorem dX6_gapBetween_5 : decode cX6_gapBetween 5 = .ok (.aaload, 1) := by decide +kernel
theorem dX6_gapBetween_6 : decode cX6_gapBetween 6 = .ok (.invokevirtual 83, 3) := by decide +kernel
theorem dX6_gapBetween_9 : decode cX6_gapBetween 9 = .ok (.aload_n 0, 1) := by decide +kernel
theorem dX6_gapBetween_10 : decode cX6_gapBetween 10 = .ok (.getfield 38, 3) := by decide +kernel
theorem dX6_gapBetween_13 : decode cX6_gapBetween 13 = .ok (.iload_n 2, 1) := by decide +kernel
theorem dX6_gapBetween_14 : decode cX6_gapBetween 14 = .ok (.aaload, 1) := by decide +kernel
theorem dX6_gapBetween_15 : decode cX6_gapBetween 15 = .ok (.getfield 87, 3) := by decide +kernel
theorem dX6_gapBetween_18 : decode cX6_gapBetween 18 = .ok (.isub, 1) := by decide +kernel
theorem dX6_gapBetween_19 : decode cX6_gapBetween 19 = .ok (.ireturn, 1) := by decide +kernel
theorem dX6_freeAtEntry_0 : decode cX6_freeAtEntry 0 = .ok (.aload_n 0, 1) := by decide +kernel
theorem dX6_freeAtEntry_1 : decode cX6_freeAtEntry 1 = .ok (.getfield 65, 3) := by decide +kernel
theorem dX6_freeAtEntry_4 : decode cX6_freeAtEntry 4 = .ok (.ifCond .le 20, 3) := by decide +kernel
theorem dX6_freeAtEntry_7 : decode cX6_freeAtEntry 7 = .ok (.aload_n 0, 1) := by decide +kernel
theorem dX6_freeAtEntry_8 : decode cX6_freeAtEntry 8 = .ok (.getfield 38, 3) := by decide +kernel
theorem dX6_freeAtEntry_11 : decode cX6_freeAtEntry 11 = .ok (.aload_n 0, 1) := by decide +kernel
theorem dX6_freeAtEntry_12 : decode cX6_freeAtEntry 12 = .ok (.getfield 65, 3) := by decide +kernel
theorem dX6_freeAtEntry_15 : decode cX6_freeAtEntry 15 = .ok (.iconst 1, 1) := by decide +kernel
theorem dX6_freeAtEntry_16 : decode cX6_freeAtEntry 16 = .ok (.isub, 1) := by decide +kernel
theorem dX6_freeAtEntry_17 : decode cX6_freeAtEntry 17 = .ok (.aaload, 1) := by decide +kernel
theorem dX6_freeAtEntry_18 : decode cX6_freeAtEntry 18 = .ok (.invokevirtual 83, 3) := by decide +kernel
theorem dX6_freeAtEntry_21 : decode cX6_freeAtEntry 21 = .ok (.goto 5, 3) := by decide +kernel
theorem dX6_freeAtEntry_24 : decode cX6_freeAtEntry 24 = .ok (.ldc 90, 2) := by decide +kernel
theorem dX6_freeAtEntry_26 : decode cX6_freeAtEntry 26 = .ok (.ireturn, 1) := by decide +kernel
theorem dX6_beginPart_0 : decode cX6_beginPart 0 = .ok (.aload_n 0, 1) := by decide +kernel
theorem dX6_beginPart_1 : decode cX6_beginPart 1 = .ok (.getfield 65, 3) := by decide +kernel
theorem dX6_beginPart_4 : decode cX6_beginPart 4 = .ok (.bipush 20, 2) := by decide +kernel
theorem dX6_beginPart_6 : decode cX6_beginPart 6 = .ok (.if_icmp .lt 5, 3) := by decide +kernel
theorem dX6_beginPart_9 : decode cX6_beginPart 9 = .ok (.iconst (-1), 1) := by decide +kernel
theorem dX6_beginPart_10 : decode cX6_beginPart 10 = .ok (.ireturn, 1) := by decide +kernel
theorem dX6_beginPart_11 : decode cX6_beginPart 11 = .ok (.aload_n 0, 1) := by decide +kernel
theorem dX6_beginPart_12 : decode cX6_beginPart 12 = .ok (.getfield 71, 3) := by decide +kernel
theorem dX6_beginPart_15 : decode cX6_beginPart 15 = .ok (.istore_n 2, 1) := by decide +kernel
theorem dX6_beginPart_16 : decode cX6_beginPart 16 = .ok (.aload_n 0, 1) := by decide +kernel
theorem dX6_beginPart_17 : decode cX6_beginPart 17 = .ok (.getfield 38, 3) := by decide +kernel
theorem dX6_beginPart_20 : decode cX6_beginPart 20 = .ok (.aload_n 0, 1) := by decide +kernel
theorem dX6_beginPart_21 : decode cX6_beginPart 21 = .ok (.getfield 65, 3) := by decide +kernel
theorem dX6_beginPart_24 : decode cX6_beginPart 24 = .ok (.aaload, 1) := by decide +kernel
theorem dX6_beginPart_25 : decode cX6_beginPart 25 = .ok (.astore_n 3, 1) := by decide +kernel
theorem dX6_beginPart_26 : decode cX6_beginPart 26 = .ok (.aload_n 3, 1) := by decide +kernel
theorem dX6_beginPart_27 : decode cX6_beginPart 27 = .ok (.iload_n 2, 1) := by decide +kernel
theorem dX6_beginPart_28 : decode cX6_beginPart 28 = .ok (.iload_n 1, 1) := by decide +kernel
theorem dX6_beginPart_29 : decode cX6_beginPart 29 = .ok (.invokevirtual 91, 3) := by decide +kernel
theorem dX6_beginPart_32 : decode cX6_beginPart 32 = .ok (.aload_n 0, 1) := by decide +kernel
theorem dX6_beginPart_33 : decode cX6_beginPart 33 = .ok (.getfield 65, 3) := by decide +kernel
theorem dX6_beginPart_36 : decode cX6_beginPart 36 = .ok (.ifCond .le 36, 3) := by decide +kernel
theorem dX6_beginPart_39 : decode cX6_beginPart 39 = .ok (.aload_n 0, 1) := by decide +kernel
theorem dX6_beginPart_40 : decode cX6_beginPart 40 = .ok (.invokevirtual 95, 3) := by decide +kernel
theorem dX6_beginPart_43 : decode cX6_beginPart 43 = .ok (.aload_n 0, 1) := by decide +kernel
theorem dX6_beginPart_44 : decode cX6_beginPart 44 = .ok (.getfield 18, 3) := by decide +kernel
theorem dX6_beginPart_47 : decode cX6_beginPart 47 = .ok (.iconst 5, 1) := by decide +kernel
theorem dX6_beginPart_48 : decode cX6_beginPart 48 = .ok (.iaload, 1) := by decide +kernel
theorem dX6_beginPart_49 : decode cX6_beginPart 49 = .ok (.if_icmp .ge 23, 3) := by decide +kernel
theorem dX6_beginPart_52 : decode cX6_beginPart 52 = .ok (.aload_n 3, 1) := by decide +kernel
theorem dX6_beginPart_53 : decode cX6_beginPart 53 = .ok (.iconst 1, 1) := by decide +kernel
theorem dX6_beginPart_54 : decode cX6_beginPart 54 = .ok (.putfield 98, 3) := by decide +kernel
theorem dX6_beginPart_57 : decode cX6_beginPart 57 = .ok (.aload_n 0, 1) := by decide +kernel
theorem dX6_beginPart_58 : decode cX6_beginPart 58 = .ok (.getfield 38, 3) := by decide +kernel
theorem dX6_beginPart_61 : decode cX6_beginPart 61 = .ok (.aload_n 0, 1) := by decide +kernel
theorem dX6_beginPart_62 : decode cX6_beginPart 62 = .ok (.getfield 65, 3) := by decide +kernel
theorem dX6_beginPart_65 : decode cX6_beginPart 65 = .ok (.iconst 1, 1) := by decide +kernel
theorem dX6_beginPart_66 : decode cX6_beginPart 66 = .ok (.isub, 1) := by decide +kernel
theorem dX6_beginPart_67 : decode cX6_beginPart 67 = .ok (.aaload, 1) := by decide +kernel
theorem dX6_beginPart_68 : decode cX6_beginPart 68 = .ok (.iconst 1, 1) := by decide +kernel
theorem dX6_beginPart_69 : decode cX6_beginPart 69 = .ok (.putfield 98, 3) := by decide +kernel
theorem dX6_beginPart_72 : decode cX6_beginPart 72 = .ok (.aload_n 0, 1) := by decide +kernel
theorem dX6_beginPart_73 : decode cX6_beginPart 73 = .ok (.dup, 1) := by decide +kernel
theorem dX6_beginPart_74 : decode cX6_beginPart 74 = .ok (.getfield 65, 3) := by decide +kernel
theorem dX6_beginPart_77 : decode cX6_beginPart 77 = .ok (.iconst 1, 1) := by decide +kernel
theorem dX6_beginPart_78 : decode cX6_beginPart 78 = .ok (.iadd, 1) := by decide +kernel
theorem dX6_beginPart_79 : decode cX6_beginPart 79 = .ok (.putfield 65, 3) := by decide +kernel
theorem dX6_beginPart_82 : decode cX6_beginPart 82 = .ok (.aload_n 0, 1) := by decide +kernel
theorem dX6_beginPart_83 : decode cX6_beginPart 83 = .ok (.dup, 1) := by decide +kernel
theorem dX6_beginPart_84 : decode cX6_beginPart 84 = .ok (.getfield 71, 3) := by decide +kernel
theorem dX6_beginPart_87 : decode cX6_beginPart 87 = .ok (.iconst 1, 1) := by decide +kernel
theorem dX6_beginPart_88 : decode cX6_beginPart 88 = .ok (.iadd, 1) := by decide +kernel
theorem dX6_beginPart_89 : decode cX6_beginPart 89 = .ok (.putfield 71, 3) := by decide +kernel
theorem dX6_beginPart_92 : decode cX6_beginPart 92 = .ok (.iload_n 2, 1) := by decide +kernel
theorem dX6_beginPart_93 : decode cX6_beginPart 93 = .ok (.ireturn, 1) := by decide +kernel
theorem dX6_ownerOfRead_0 : decode cX6_ownerOfRead 0 = .ok (.aload_n 0, 1) := by decide +kernel
theorem dX6_ownerOfRead_1 : decode cX6_ownerOfRead 1 = .ok (.getfield 18, 3) := by decide +kernel
theorem dX6_ownerOfRead_4 : decode cX6_ownerOfRead 4 = .ok (.iconst 0, 1) := by decide +kernel
theorem dX6_ownerOfRead_5 : decode cX6_ownerOfRead 5 = .ok (.iaload, 1) := by decide +kernel
theorem dX6_ownerOfRead_6 : decode cX6_ownerOfRead 6 = .ok (.istore_n 1, 1) := by decide +kernel
theorem dX6_ownerOfRead_7 : decode cX6_ownerOfRead 7 = .ok (.aconst_null, 1) := by decide +kernel
theorem dX6_ownerOfRead_8 : decode cX6_ownerOfRead 8 = .ok (.astore_n 2, 1) := by decide +kernel
theorem dX6_ownerOfRead_9 : decode cX6_ownerOfRead 9 = .ok (.aconst_null, 1) := by decide +kernel
theorem dX6_ownerOfRead_10 : decode cX6_ownerOfRead 10 = .ok (.astore_n 3, 1) := by decide +kernel
theorem dX6_ownerOfRead_11 : decode cX6_ownerOfRead 11 = .ok (.iconst 0, 1) := by decide +kernel
theorem dX6_ownerOfRead_12 : decode cX6_ownerOfRead 12 = .ok (.istore 4, 2) := by decide +kernel
theorem dX6_ownerOfRead_14 : decode cX6_ownerOfRead 14 = .ok (.iload 4, 2) := by decide +kernel
theorem dX6_ownerOfRead_16 : decode cX6_ownerOfRead 16 = .ok (.aload_n 0, 1) := by decide +kernel
theorem dX6_ownerOfRead_17 : decode cX6_ownerOfRead 17 = .ok (.getfield 65, 3) := by decide +kernel
theorem dX6_ownerOfRead_20 : decode cX6_ownerOfRead 20 = .ok (.if_icmp .ge 65, 3) := by decide +kernel
theorem dX6_ownerOfRead_23 : decode cX6_ownerOfRead 23 = .ok (.aload_n 0, 1) := by decide +kernel
theorem dX6_ownerOfRead_24 : decode cX6_ownerOfRead 24 = .ok (.getfield 38, 3) := by decide +kernel
theorem dX6_ownerOfRead_27 : decode cX6_ownerOfRead 27 = .ok (.iload 4, 2) := by decide +kernel
theorem dX6_ownerOfRead_29 : decode cX6_ownerOfRead 29 = .ok (.aaload, 1) := by decide +kernel
theorem dX6_ownerOfRead_30 : decode cX6_ownerOfRead 30 = .ok (.astore 5, 2) := by decide +kernel
theorem dX6_ownerOfRead_32 : decode cX6_ownerOfRead 32 = .ok (.aload 5, 2) := by decide +kernel
theorem dX6_ownerOfRead_34 : decode cX6_ownerOfRead 34 = .ok (.invokevirtual 83, 3) := by decide +kernel
theorem dX6_ownerOfRead_37 : decode cX6_ownerOfRead 37 = .ok (.istore 6, 2) := by decide +kernel
theorem dX6_ownerOfRead_39 : decode cX6_ownerOfRead 39 = .ok (.iload 6, 2) := by decide +kernel
theorem dX6_ownerOfRead_41 : decode cX6_ownerOfRead 41 = .ok (.iload_n 1, 1) := by decide +kernel
theorem dX6_ownerOfRead_42 : decode cX6_ownerOfRead 42 = .ok (.if_icmp .lt 19, 3) := by decide +kernel
theorem dX6_ownerOfRead_45 : decode cX6_ownerOfRead 45 = .ok (.iload 6, 2) := by decide +kernel
theorem dX6_ownerOfRead_47 : decode cX6_ownerOfRead 47 = .ok (.iload_n 1, 1) := by decide +kernel
theorem dX6_ownerOfRead_48 : decode cX6_ownerOfRead 48 = .ok (.aload_n 0, 1) := by decide +kernel
theorem dX6_ownerOfRead_49 : decode cX6_ownerOfRead 49 = .ok (.getfield 18, 3) := by decide +kernel
theorem dX6_ownerOfRead_52 : decode cX6_ownerOfRead 52 = .ok (.iconst 1, 1) := by decide +kernel
theorem dX6_ownerOfRead_53 : decode cX6_ownerOfRead 53 = .ok (.iaload, 1) := by decide +kernel
theorem dX6_ownerOfRead_54 : decode cX6_ownerOfRead 54 = .ok (.iadd, 1) := by decide +kernel
theorem dX6_ownerOfRead_55 : decode cX6_ownerOfRead 55 = .ok (.if_icmp .ge 6, 3) := by decide +kernel
theorem dX6_ownerOfRead_58 : decode cX6_ownerOfRead 58 = .ok (.aload 5, 2) := by decide +kernel
theorem dX6_ownerOfRead_60 : decode cX6_ownerOfRead 60 = .ok (.astore_n 2, 1) := by decide +kernel
theorem dX6_ownerOfRead_61 : decode cX6_ownerOfRead 61 = .ok (.iload 6, 2) := by decide +kernel
theorem dX6_ownerOfRead_63 : decode cX6_ownerOfRead 63 = .ok (.iload_n 1, 1) := by decide +kernel
theorem dX6_ownerOfRead_64 : decode cX6_ownerOfRead 64 = .ok (.if_icmp .ge 15, 3) := by decide +kernel
theorem dX6_ownerOfRead_67 : decode cX6_ownerOfRead 67 = .ok (.aload 5, 2) := by decide +kernel
theorem dX6_ownerOfRead_69 : decode cX6_ownerOfRead 69 = .ok (.getfield 87, 3) := by decide +kernel
theorem dX6_ownerOfRead_72 : decode cX6_ownerOfRead 72 = .ok (.iload_n 1, 1) := by decide +kernel
theorem dX6_ownerOfRead_73 : decode cX6_ownerOfRead 73 = .ok (.if_icmp .lt 6, 3) := by decide +kernel
theorem dX6_ownerOfRead_76 : decode cX6_ownerOfRead 76 = .ok (.aload 5, 2) := by decide +kernel
theorem dX6_ownerOfRead_78 : decode cX6_ownerOfRead 78 = .ok (.astore_n 3, 1) := by decide +kernel
theorem dX6_ownerOfRead_79 : decode cX6_ownerOfRead 79 = .ok (.iinc 4 1, 3) := by decide +kernel
theorem dX6_ownerOfRead_82 : decode cX6_ownerOfRead 82 = .ok (.goto (-68), 3) := by decide +kernel
theorem dX6_ownerOfRead_85 : decode cX6_ownerOfRead 85 = .ok (.aload_n 2, 1) := by decide +kernel
theorem dX6_ownerOfRead_86 : decode cX6_ownerOfRead 86 = .ok (.ifnull 17, 3) := by decide +kernel
theorem dX6_ownerOfRead_89 : decode cX6_ownerOfRead 89 = .ok (.aload_n 2, 1) := by decide +kernel
theorem dX6_ownerOfRead_90 : decode cX6_ownerOfRead 90 = .ok (.getfield 102, 3) := by decide +kernel
theorem dX6_ownerOfRead_93 : decode cX6_ownerOfRead 93 = .ok (.iconst (-1), 1) := by decide +kernel
theorem dX6_ownerOfRead_94 : decode cX6_ownerOfRead 94 = .ok (.if_icmp .eq 7, 3) := by decide +kernel
theorem dX6_ownerOfRead_97 : decode cX6_ownerOfRead 97 = .ok (.aload_n 3, 1) := by decide +kernel
theorem dX6_ownerOfRead_98 : decode cX6_ownerOfRead 98 = .ok (.ifnonnull 5, 3) := by decide +kernel
theorem dX6_ownerOfRead_101 : decode cX6_ownerOfRead 101 = .ok (.aload_n 2, 1) := by decide +kernel
theorem dX6_ownerOfRead_102 : decode cX6_ownerOfRead 102 = .ok (.areturn, 1) := by decide +kernel
theorem dX6_ownerOfRead_103 : decode cX6_ownerOfRead 103 = .ok (.aload_n 3, 1) := by decide +kernel
theorem dX6_ownerOfRead_104 : decode cX6_ownerOfRead 104 = .ok (.areturn, 1) := by decide +kernel
theorem dX6_laneOf_0 : decode cX6_laneOf 0 = .ok (.aload_n 1, 1) := by decide +kernel
theorem dX6_laneOf_1 : decode cX6_laneOf 1 = .ok (.getfield 102, 3) := by decide +kernel
theorem dX6_laneOf_4 : decode cX6_laneOf 4 = .ok (.iconst (-1), 1) := by decide +kernel
theorem dX6_laneOf_5 : decode cX6_laneOf 5 = .ok (.if_icmp .eq 17, 3) := by decide +kernel
theorem dX6_laneOf_8 : decode cX6_laneOf 8 = .ok (.aload_n 1, 1) := by decide +kernel
theorem dX6_laneOf_9 : decode cX6_laneOf 9 = .ok (.getfield 105, 3) := by decide +kernel
theorem dX6_laneOf_12 : decode cX6_laneOf 12 = .ok (.ifCond .ne 10, 3) := by decide +kernel
theorem dX6_laneOf_15 : decode cX6_laneOf 15 = .ok (.aload_n 1, 1) := by decide +kernel
theorem dX6_laneOf_16 : decode cX6_laneOf 16 = .ok (.getfield 98, 3) := by decide +kernel
theorem dX6_laneOf_19 : decode cX6_laneOf 19 = .ok (.ifCond .eq 5, 3) := by decide +kernel
theorem dX6_laneOf_22 : decode cX6_laneOf 22 = .ok (.iconst (-1), 1) := by decide +kernel
theorem dX6_laneOf_23 : decode cX6_laneOf 23 = .ok (.ireturn, 1) := by decide +kernel
theorem dX6_laneOf_24 : decode cX6_laneOf 24 = .ok (.aload_n 0, 1) := by decide +kernel
theorem dX6_laneOf_25 : decode cX6_laneOf 25 = .ok (.aload_n 1, 1) := by decide +kernel
theorem dX6_laneOf_26 : decode cX6_laneOf 26 = .ok (.getfield 102, 3) := by decide +kernel
theorem dX6_laneOf_29 : decode cX6_laneOf 29 = .ok (.aload_n 1, 1) := by decide +kernel
theorem dX6_laneOf_30 : decode cX6_laneOf 30 = .ok (.getfield 108, 3) := by decide +kernel
theorem dX6_laneOf_33 : decode cX6_laneOf 33 = .ok (.invokevirtual 111, 3) := by decide +kernel
theorem dX6_laneOf_36 : decode cX6_laneOf 36 = .ok (.ireturn, 1) := by decide +kernel
theorem dX6_laneGiven_0 : decode cX6_laneGiven 0 = .ok (.aload_n 0, 1) := by decide +kernel
theorem dX6_laneGiven_1 : decode cX6_laneGiven 1 = .ok (.getfield 32, 3) := by decide +kernel
theorem dX6_laneGiven_4 : decode cX6_laneGiven 4 = .ok (.iload_n 1, 1) := by decide +kernel
theorem dX6_laneGiven_5 : decode cX6_laneGiven 5 = .ok (.invokevirtual 115, 3) := by decide +kernel
theorem dX6_laneGiven_8 : decode cX6_laneGiven 8 = .ok (.istore_n 3, 1) := by decide +kernel
theorem dX6_laneGiven_9 : decode cX6_laneGiven 9 = .ok (.iload_n 3, 1) := by decide +kernel
theorem dX6_laneGiven_10 : decode cX6_laneGiven 10 = .ok (.iconst (-1), 1) := by decide +kernel
theorem dX6_laneGiven_11 : decode cX6_laneGiven 11 = .ok (.if_icmp .ne 13, 3) := by decide +kernel
theorem dX6_laneGiven_14 : decode cX6_laneGiven 14 = .ok (.aload_n 0, 1) := by decide +kernel
theorem dX6_laneGiven_15 : decode cX6_laneGiven 15 = .ok (.getfield 42, 3) := by decide +kernel
theorem dX6_laneGiven_18 : decode cX6_laneGiven 18 = .ok (.iload_n 1, 1) := by decide +kernel
theorem dX6_laneGiven_19 : decode cX6_laneGiven 19 = .ok (.iload_n 2, 1) := by decide +kernel
theorem dX6_laneGiven_20 : decode cX6_laneGiven 20 = .ok (.invokevirtual 119, 3) := by decide +kernel
theorem dX6_laneGiven_23 : decode cX6_laneGiven 23 = .ok (.istore_n 3, 1) := by decide +kernel
theorem dX6_laneGiven_24 : decode cX6_laneGiven 24 = .ok (.aload_n 0, 1) := by decide +kernel
theorem dX6_laneGiven_25 : decode cX6_laneGiven 25 = .ok (.iload_n 3, 1) := by decide +kernel
theorem dX6_laneGiven_26 : decode cX6_laneGiven 26 = .ok (.invokevirtual 124, 3) := by decide +kernel
theorem dX6_laneGiven_29 : decode cX6_laneGiven 29 = .ok (.ifCond .eq 7, 3) := by decide +kernel
theorem dX6_laneGiven_32 : decode cX6_laneGiven 32 = .ok (.iload_n 3, 1) := by decide +kernel
theorem dX6_laneGiven_33 : decode cX6_laneGiven 33 = .ok (.goto 4, 3) := by decide +kernel
theorem dX6_laneGiven_36 : decode cX6_laneGiven 36 = .ok (.iconst (-1), 1) := by decide +kernel
theorem dX6_laneGiven_37 : decode cX6_laneGiven 37 = .ok (.ireturn, 1) := by decide +kernel
theorem dX6_aimParts_0 : decode cX6_aimParts 0 = .ok (.iconst 0, 1) := by decide +kernel
theorem dX6_aimParts_1 : decode cX6_aimParts 1 = .ok (.istore_n 1, 1) := by decide +kernel
theorem dX6_aimParts_2 : decode cX6_aimParts 2 = .ok (.iload_n 1, 1) := by decide +kernel
theorem dX6_aimParts_3 : decode cX6_aimParts 3 = .ok (.aload_n 0, 1) := by decide +kernel
theorem dX6_aimParts_4 : decode cX6_aimParts 4 = .ok (.getfield 65, 3) := by decide +kernel
theorem dX6_aimParts_7 : decode cX6_aimParts 7 = .ok (.if_icmp .ge 28, 3) := by decide +kernel
theorem dX6_aimParts_10 : decode cX6_aimParts 10 = .ok (.aload_n 0, 1) := by decide +kernel
theorem dX6_aimParts_11 : decode cX6_aimParts 11 = .ok (.getfield 38, 3) := by decide +kernel
theorem dX6_aimParts_14 : decode cX6_aimParts 14 = .ok (.iload_n 1, 1) := by decide +kernel
theorem dX6_aimParts_15 : decode cX6_aimParts 15 = .ok (.aaload, 1) := by decide +kernel
theorem dX6_aimParts_16 : decode cX6_aimParts 16 = .ok (.aload_n 0, 1) := by decide +kernel
theorem dX6_aimParts_17 : decode cX6_aimParts 17 = .ok (.aload_n 0, 1) := by decide +kernel
theorem dX6_aimParts_18 : decode cX6_aimParts 18 = .ok (.getfield 38, 3) := by decide +kernel
theorem dX6_aimParts_21 : decode cX6_aimParts 21 = .ok (.iload_n 1, 1) := by decide +kernel
theorem dX6_aimParts_22 : decode cX6_aimParts 22 = .ok (.aaload, 1) := by decide +kernel
theorem dX6_aimParts_23 : decode cX6_aimParts 23 = .ok (.invokevirtual 128, 3) := by decide +kernel
theorem dX6_aimParts_26 : decode cX6_aimParts 26 = .ok (.putfield 131, 3) := by decide +kernel
theorem dX6_aimParts_29 : decode cX6_aimParts 29 = .ok (.iinc 1 1, 3) := by decide +kernel
theorem dX6_aimParts_32 : decode cX6_aimParts 32 = .ok (.goto (-30), 3) := by decide +kernel
theorem dX6_aimParts_35 : decode cX6_aimParts 35 = .ok (.aload_n 0, 1) := by decide +kernel
theorem dX6_aimParts_36 : decode cX6_aimParts 36 = .ok (.iconst 0, 1) := by decide +kernel
theorem dX6_aimParts_37 : decode cX6_aimParts 37 = .ok (.putfield 134, 3) := by decide +kernel
theorem dX6_aimParts_40 : decode cX6_aimParts 40 = .ok (.return_, 1) := by decide +kernel
theorem dX6_stride_0 : decode cX6_stride 0 = .ok (.aload_n 0, 1) := by decide +kernel
theorem dX6_stride_1 : decode cX6_stride 1 = .ok (.getfield 134, 3) := by decide +kernel
theorem dX6_stride_4 : decode cX6_stride 4 = .ok (.ifCond .eq 20, 3) := by decide +kernel
theorem dX6_stride_7 : decode cX6_stride 7 = .ok (.iconst 0, 1) := by decide +kernel
theorem dX6_stride_8 : decode cX6_stride 8 = .ok (.aload_n 0, 1) := by decide +kernel
theorem dX6_stride_9 : decode cX6_stride 9 = .ok (.invokevirtual 137, 3) := by decide +kernel
theorem dX6_stride_12 : decode cX6_stride 12 = .ok (.iload_n 1, 1) := by decide +kernel
theorem dX6_stride_13 : decode cX6_stride 13 = .ok (.iconst 1, 1) := by decide +kernel
theorem dX6_stride_14 : decode cX6_stride 14 = .ok (.isub, 1) := by decide +kernel
theorem dX6_stride_15 : decode cX6_stride 15 = .ok (.invokestatic 140, 3) := by decide +kernel
theorem dX6_stride_18 : decode cX6_stride 18 = .ok (.invokestatic 145, 3) := by decide +kernel
theorem dX6_stride_21 : decode cX6_stride 21 = .ok (.goto 4, 3) := by decide +kernel
theorem dX6_stride_24 : decode cX6_stride 24 = .ok (.iconst 0, 1) := by decide +kernel
theorem dX6_stride_25 : decode cX6_stride 25 = .ok (.istore_n 2, 1) := by decide +kernel
theorem dX6_stride_26 : decode cX6_stride 26 = .ok (.aload_n 0, 1) := by decide +kernel
theorem dX6_stride_27 : decode cX6_stride 27 = .ok (.iload_n 2, 1) := by decide +kernel
theorem dX6_stride_28 : decode cX6_stride 28 = .ok (.iconst 1, 1) := by decide +kernel
theorem dX6_stride_29 : decode cX6_stride 29 = .ok (.iadd, 1) := by decide +kernel
theorem dX6_stride_30 : decode cX6_stride 30 = .ok (.invokevirtual 148, 3) := by decide +kernel
theorem dX6_stride_33 : decode cX6_stride 33 = .ok (.aload_n 0, 1) := by decide +kernel
theorem dX6_stride_34 : decode cX6_stride 34 = .ok (.getfield 65, 3) := by decide +kernel
theorem dX6_stride_37 : decode cX6_stride 37 = .ok (.istore_n 3, 1) := by decide +kernel
theorem dX6_stride_38 : decode cX6_stride 38 = .ok (.aload_n 0, 1) := by decide +kernel
theorem dX6_stride_39 : decode cX6_stride 39 = .ok (.invokevirtual 152, 3) := by decide +kernel
theorem dX6_stride_42 : decode cX6_stride 42 = .ok (.aload_n 0, 1) := by decide +kernel
theorem dX6_stride_43 : decode cX6_stride 43 = .ok (.invokevirtual 155, 3) := by decide +kernel
theorem dX6_stride_46 : decode cX6_stride 46 = .ok (.aload_n 0, 1) := by decide +kernel
theorem dX6_stride_47 : decode cX6_stride 47 = .ok (.aload_n 0, 1) := by decide +kernel
theorem dX6_stride_48 : decode cX6_stride 48 = .ok (.getfield 65, 3) := by decide +kernel
theorem dX6_stride_51 : decode cX6_stride 51 = .ok (.iload_n 3, 1) := by decide +kernel
theorem dX6_stride_52 : decode cX6_stride 52 = .ok (.if_icmp .ne 7, 3) := by decide +kernel
theorem dX6_stride_55 : decode cX6_stride 55 = .ok (.iconst 1, 1) := by decide +kernel
theorem dX6_stride_56 : decode cX6_stride 56 = .ok (.goto 4, 3) := by decide +kernel
theorem dX6_stride_59 : decode cX6_stride 59 = .ok (.iconst 0, 1) := by decide +kernel
theorem dX6_stride_60 : decode cX6_stride 60 = .ok (.putfield 134, 3) := by decide +kernel
theorem dX6_stride_63 : decode cX6_stride 63 = .ok (.iload_n 2, 1) := by decide +kernel
theorem dX6_stride_64 : decode cX6_stride 64 = .ok (.iconst 1, 1) := by decide +kernel
theorem dX6_stride_65 : decode cX6_stride 65 = .ok (.iadd, 1) := by decide +kernel
theorem dX6_stride_66 : decode cX6_stride 66 = .ok (.ireturn, 1) := by decide +kernel
theorem dX6_quietMillimeters_0 : decode cX6_quietMillimeters 0 = .ok (.ldc 90, 2) := by decide +kernel
theorem dX6_quietMillimeters_2 : decode cX6_quietMillimeters 2 = .ok (.istore_n 1, 1) := by decide +kernel
theorem dX6_quietMillimeters_3 : decode cX6_quietMillimeters 3 = .ok (.iconst 0, 1) := by decide +kernel
theorem dX6_quietMillimeters_4 : decode cX6_quietMillimeters 4 = .ok (.istore_n 2, 1) := by decide +kernel
theorem dX6_quietMillimeters_5 : decode cX6_quietMillimeters 5 = .ok (.iload_n 2, 1) := by decide +kernel
theorem dX6_quietMillimeters_6 : decode cX6_quietMillimeters 6 = .ok (.aload_n 0, 1) := by decide +kernel
theorem dX6_quietMillimeters_7 : decode cX6_quietMillimeters 7 = .ok (.getfield 65, 3) := by decide +kernel
theorem dX6_quietMillimeters_10 : decode cX6_quietMillimeters 10 = .ok (.if_icmp .ge 78, 3) := by decide +kernel
theorem dX6_quietMillimeters_13 : decode cX6_quietMillimeters 13 = .ok (.aload_n 0, 1) := by decide +kernel
theorem dX6_quietMillimeters_14 : decode cX6_quietMillimeters 14 = .ok (.getfield 38, 3) := by decide +kernel
theorem dX6_quietMillimeters_17 : decode cX6_quietMillimeters 17 = .ok (.iload_n 2, 1) := by decide +kernel
theorem dX6_quietMillimeters_18 : decode cX6_quietMillimeters 18 = .ok (.aaload, 1) := by decide +kernel
theorem dX6_quietMillimeters_19 : decode cX6_quietMillimeters 19 = .ok (.astore_n 3, 1) := by decide +kernel
theorem dX6_quietMillimeters_20 : decode cX6_quietMillimeters 20 = .ok (.iload_n 1, 1) := by decide +kernel
theorem dX6_quietMillimeters_21 : decode cX6_quietMillimeters 21 = .ok (.aload_n 0, 1) := by decide +kernel
theorem dX6_quietMillimeters_22 : decode cX6_quietMillimeters 22 = .ok (.getfield 18, 3) := by decide +kernel
theorem dX6_quietMillimeters_25 : decode cX6_quietMillimeters 25 = .ok (.iconst 4, 1) := by decide +kernel
theorem dX6_quietMillimeters_26 : decode cX6_quietMillimeters 26 = .ok (.iaload, 1) := by decide +kernel
theorem dX6_quietMillimeters_27 : decode cX6_quietMillimeters 27 = .ok (.iconst 1, 1) := by decide +kernel
theorem dX6_quietMillimeters_28 : decode cX6_quietMillimeters 28 = .ok (.isub, 1) := by decide +kernel
theorem dX6_quietMillimeters_29 : decode cX6_quietMillimeters 29 = .ok (.aload_n 3, 1) := by decide +kernel
theorem dX6_quietMillimeters_30 : decode cX6_quietMillimeters 30 = .ok (.getfield 87, 3) := by decide +kernel
theorem dX6_quietMillimeters_33 : decode cX6_quietMillimeters 33 = .ok (.isub, 1) := by decide +kernel
theorem dX6_quietMillimeters_34 : decode cX6_quietMillimeters 34 = .ok (.invokestatic 140, 3) := by decide +kernel
theorem dX6_quietMillimeters_37 : decode cX6_quietMillimeters 37 = .ok (.istore_n 1, 1) := by decide +kernel
theorem dX6_quietMillimeters_38 : decode cX6_quietMillimeters 38 = .ok (.aload_n 0, 1) := by decide +kernel
theorem dX6_quietMillimeters_39 : decode cX6_quietMillimeters 39 = .ok (.aload_n 3, 1) := by decide +kernel
theorem dX6_quietMillimeters_40 : decode cX6_quietMillimeters 40 = .ok (.getfield 131, 3) := by decide +kernel
theorem dX6_quietMillimeters_43 : decode cX6_quietMillimeters 43 = .ok (.invokevirtual 124, 3) := by decide +kernel
theorem dX6_quietMillimeters_46 : decode cX6_quietMillimeters 46 = .ok (.ifCond .eq 36, 3) := by decide +kernel
theorem dX6_quietMillimeters_49 : decode cX6_quietMillimeters 49 = .ok (.aload_n 0, 1) := by decide +kernel
theorem dX6_quietMillimeters_50 : decode cX6_quietMillimeters 50 = .ok (.getfield 25, 3) := by decide +kernel
theorem dX6_quietMillimeters_53 : decode cX6_quietMillimeters 53 = .ok (.aload_n 3, 1) := by decide +kernel
theorem dX6_quietMillimeters_54 : decode cX6_quietMillimeters 54 = .ok (.getfield 131, 3) := by decide +kernel
theorem dX6_quietMillimeters_57 : decode cX6_quietMillimeters 57 = .ok (.aaload, 1) := by decide +kernel
theorem dX6_quietMillimeters_58 : decode cX6_quietMillimeters 58 = .ok (.getfield 158, 3) := by decide +kernel
theorem dX6_quietMillimeters_61 : decode cX6_quietMillimeters 61 = .ok (.iconst 1, 1) := by decide +kernel
theorem dX6_quietMillimeters_62 : decode cX6_quietMillimeters 62 = .ok (.isub, 1) := by decide +kernel
theorem dX6_quietMillimeters_63 : decode cX6_quietMillimeters 63 = .ok (.aload_n 3, 1) := by decide +kernel
theorem dX6_quietMillimeters_64 : decode cX6_quietMillimeters 64 = .ok (.invokevirtual 161, 3) := by decide +kernel
theorem dX6_quietMillimeters_67 : decode cX6_quietMillimeters 67 = .ok (.isub, 1) := by decide +kernel
theorem dX6_quietMillimeters_68 : decode cX6_quietMillimeters 68 = .ok (.istore 4, 2) := by decide +kernel
theorem dX6_quietMillimeters_70 : decode cX6_quietMillimeters 70 = .ok (.iload 4, 2) := by decide +kernel
theorem dX6_quietMillimeters_72 : decode cX6_quietMillimeters 72 = .ok (.ifCond .lt 10, 3) := by decide +kernel
theorem dX6_quietMillimeters_75 : decode cX6_quietMillimeters 75 = .ok (.iload_n 1, 1) := by decide +kernel
theorem dX6_quietMillimeters_76 : decode cX6_quietMillimeters 76 = .ok (.iload 4, 2) := by decide +kernel
theorem dX6_quietMillimeters_78 : decode cX6_quietMillimeters 78 = .ok (.invokestatic 140, 3) := by decide +kernel
theorem dX6_quietMillimeters_81 : decode cX6_quietMillimeters 81 = .ok (.istore_n 1, 1) := by decide +kernel
theorem dX6_quietMillimeters_82 : decode cX6_quietMillimeters 82 = .ok (.iinc 2 1, 3) := by decide +kernel
theorem dX6_quietMillimeters_85 : decode cX6_quietMillimeters 85 = .ok (.goto (-80), 3) := by decide +kernel
theorem dX6_quietMillimeters_88 : decode cX6_quietMillimeters 88 = .ok (.iload_n 1, 1) := by decide +kernel
theorem dX6_quietMillimeters_89 : decode cX6_quietMillimeters 89 = .ok (.ireturn, 1) := by decide +kernel
theorem dX6_advance_0 : decode cX6_advance 0 = .ok (.aload_n 0, 1) := by decide +kernel
theorem dX6_advance_1 : decode cX6_advance 1 = .ok (.dup, 1) := by decide +kernel
theorem dX6_advance_2 : decode cX6_advance 2 = .ok (.getfield 74, 3) := by decide +kernel
theorem dX6_advance_5 : decode cX6_advance 5 = .ok (.iload_n 1, 1) := by decide +kernel
theorem dX6_advance_6 : decode cX6_advance 6 = .ok (.iadd, 1) := by decide +kernel
theorem dX6_advance_7 : decode cX6_advance 7 = .ok (.putfield 74, 3) := by decide +kernel
theorem dX6_advance_10 : decode cX6_advance 10 = .ok (.iconst 0, 1) := by decide +kernel
theorem dX6_advance_11 : decode cX6_advance 11 = .ok (.istore_n 2, 1) := by decide +kernel
theorem dX6_advance_12 : decode cX6_advance 12 = .ok (.iload_n 2, 1) := by decide +kernel
theorem dX6_advance_13 : decode cX6_advance 13 = .ok (.aload_n 0, 1) := by decide +kernel
theorem dX6_advance_14 : decode cX6_advance 14 = .ok (.getfield 65, 3) := by decide +kernel
theorem dX6_advance_17 : decode cX6_advance 17 = .ok (.if_icmp .ge 24, 3) := by decide +kernel
theorem dX6_advance_20 : decode cX6_advance 20 = .ok (.aload_n 0, 1) := by decide +kernel
theorem dX6_advance_21 : decode cX6_advance 21 = .ok (.getfield 38, 3) := by decide +kernel
theorem dX6_advance_24 : decode cX6_advance 24 = .ok (.iload_n 2, 1) := by decide +kernel
theorem dX6_advance_25 : decode cX6_advance 25 = .ok (.aaload, 1) := by decide +kernel
theorem dX6_advance_26 : decode cX6_advance 26 = .ok (.dup, 1) := by decide +kernel
theorem dX6_advance_27 : decode cX6_advance 27 = .ok (.getfield 87, 3) := by decide +kernel
theorem dX6_advance_30 : decode cX6_advance 30 = .ok (.iload_n 1, 1) := by decide +kernel
theorem dX6_advance_31 : decode cX6_advance 31 = .ok (.iadd, 1) := by decide +kernel
theorem dX6_advance_32 : decode cX6_advance 32 = .ok (.putfield 87, 3) := by decide +kernel
theorem dX6_advance_35 : decode cX6_advance 35 = .ok (.iinc 2 1, 3) := by decide +kernel
theorem dX6_advance_38 : decode cX6_advance 38 = .ok (.goto (-26), 3) := by decide +kernel
theorem dX6_advance_41 : decode cX6_advance 41 = .ok (.return_, 1) := by decide +kernel
theorem dX6_divertParts_0 : decode cX6_divertParts 0 = .ok (.iconst 0, 1) := by decide +kernel
theorem dX6_divertParts_1 : decode cX6_divertParts 1 = .ok (.istore_n 1, 1) := by decide +kernel
theorem dX6_divertParts_2 : decode cX6_divertParts 2 = .ok (.aload_n 0, 1) := by decide +kernel
theorem dX6_divertParts_3 : decode cX6_divertParts 3 = .ok (.getfield 65, 3) := by decide +kernel
theorem dX6_divertParts_6 : decode cX6_divertParts 6 = .ok (.istore_n 2, 1) := by decide +kernel
theorem dX6_divertParts_7 : decode cX6_divertParts 7 = .ok (.iload_n 2, 1) := by decide +kernel
theorem dX6_divertParts_8 : decode cX6_divertParts 8 = .ok (.ifCond .le 40, 3) := by decide +kernel
theorem dX6_divertParts_11 : decode cX6_divertParts 11 = .ok (.aload_n 0, 1) := by decide +kernel
theorem dX6_divertParts_12 : decode cX6_divertParts 12 = .ok (.iload_n 1, 1) := by decide +kernel
theorem dX6_divertParts_13 : decode cX6_divertParts 13 = .ok (.invokevirtual 164, 3) := by decide +kernel
theorem dX6_divertParts_16 : decode cX6_divertParts 16 = .ok (.ifCond .eq 23, 3) := by decide +kernel
theorem dX6_divertParts_19 : decode cX6_divertParts 19 = .ok (.aload_n 0, 1) := by decide +kernel
theorem dX6_divertParts_20 : decode cX6_divertParts 20 = .ok (.iload_n 1, 1) := by decide +kernel
theorem dX6_divertParts_21 : decode cX6_divertParts 21 = .ok (.bipush 10, 2) := by decide +kernel
theorem dX6_divertParts_23 : decode cX6_divertParts 23 = .ok (.aload_n 0, 1) := by decide +kernel
theorem dX6_divertParts_24 : decode cX6_divertParts 24 = .ok (.getfield 38, 3) := by decide +kernel
theorem dX6_divertParts_27 : decode cX6_divertParts 27 = .ok (.iload_n 1, 1) := by decide +kernel
theorem dX6_divertParts_28 : decode cX6_divertParts 28 = .ok (.aaload, 1) := by decide +kernel
theorem dX6_divertParts_29 : decode cX6_divertParts 29 = .ok (.getfield 131, 3) := by decide +kernel
theorem dX6_divertParts_32 : decode cX6_divertParts 32 = .ok (.iadd, 1) := by decide +kernel
theorem dX6_divertParts_33 : decode cX6_divertParts 33 = .ok (.invokevirtual 167, 3) := by decide +kernel
theorem dX6_divertParts_36 : decode cX6_divertParts 36 = .ok (.goto 6, 3) := by decide +kernel
theorem dX6_divertParts_39 : decode cX6_divertParts 39 = .ok (.iinc 1 1, 3) := by decide +kernel
theorem dX6_divertParts_42 : decode cX6_divertParts 42 = .ok (.iinc 2 (-1), 3) := by decide +kernel
theorem dX6_divertParts_45 : decode cX6_divertParts 45 = .ok (.goto (-38), 3) := by decide +kernel
theorem dX6_divertParts_48 : decode cX6_divertParts 48 = .ok (.return_, 1) := by decide +kernel
theorem dX6_diverts_0 : decode cX6_diverts 0 = .ok (.aload_n 0, 1) := by decide +kernel
theorem dX6_diverts_1 : decode cX6_diverts 1 = .ok (.getfield 38, 3) := by decide +kernel
theorem dX6_diverts_4 : decode cX6_diverts 4 = .ok (.iload_n 1, 1) := by decide +kernel
theorem dX6_diverts_5 : decode cX6_diverts 5 = .ok (.aaload, 1) := by decide +kernel
theorem dX6_diverts_6 : decode cX6_diverts 6 = .ok (.astore_n 2, 1) := by decide +kernel
theorem dX6_diverts_7 : decode cX6_diverts 7 = .ok (.aload_n 0, 1) := by decide +kernel
theorem dX6_diverts_8 : decode cX6_diverts 8 = .ok (.aload_n 2, 1) := by decide +kernel
theorem dX6_diverts_9 : decode cX6_diverts 9 = .ok (.getfield 131, 3) := by decide +kernel
theorem dX6_diverts_12 : decode cX6_diverts 12 = .ok (.invokevirtual 124, 3) := by decide +kernel
theorem dX6_diverts_15 : decode cX6_diverts 15 = .ok (.ifCond .ne 5, 3) := by decide +kernel
theorem dX6_diverts_18 : decode cX6_diverts 18 = .ok (.iconst 0, 1) := by decide +kernel
theorem dX6_diverts_19 : decode cX6_diverts 19 = .ok (.ireturn, 1) := by decide +kernel
theorem dX6_diverts_20 : decode cX6_diverts 20 = .ok (.aload_n 0, 1) := by decide +kernel
theorem dX6_diverts_21 : decode cX6_diverts 21 = .ok (.getfield 25, 3) := by decide +kernel
theorem dX6_diverts_24 : decode cX6_diverts 24 = .ok (.aload_n 2, 1) := by decide +kernel
theorem dX6_diverts_25 : decode cX6_diverts 25 = .ok (.getfield 131, 3) := by decide +kernel
theorem dX6_diverts_28 : decode cX6_diverts 28 = .ok (.aaload, 1) := by decide +kernel
theorem dX6_diverts_29 : decode cX6_diverts 29 = .ok (.astore_n 3, 1) := by decide +kernel
theorem dX6_diverts_30 : decode cX6_diverts 30 = .ok (.aload_n 3, 1) := by decide +kernel
theorem dX6_diverts_31 : decode cX6_diverts 31 = .ok (.aload_n 2, 1) := by decide +kernel
theorem dX6_diverts_32 : decode cX6_diverts 32 = .ok (.invokevirtual 161, 3) := by decide +kernel
theorem dX6_diverts_35 : decode cX6_diverts 35 = .ok (.invokevirtual 170, 3) := by decide +kernel
theorem dX6_diverts_38 : decode cX6_diverts 38 = .ok (.ifCond .ne 5, 3) := by decide +kernel
theorem dX6_diverts_41 : decode cX6_diverts 41 = .ok (.iconst 0, 1) := by decide +kernel
theorem dX6_diverts_42 : decode cX6_diverts 42 = .ok (.ireturn, 1) := by decide +kernel
theorem dX6_diverts_43 : decode cX6_diverts 43 = .ok (.aload_n 0, 1) := by decide +kernel
theorem dX6_diverts_44 : decode cX6_diverts 44 = .ok (.iload_n 1, 1) := by decide +kernel
theorem dX6_diverts_45 : decode cX6_diverts 45 = .ok (.invokevirtual 173, 3) := by decide +kernel
theorem dX6_diverts_48 : decode cX6_diverts 48 = .ok (.ifCond .ne 10, 3) := by decide +kernel
theorem dX6_diverts_51 : decode cX6_diverts 51 = .ok (.aload_n 2, 1) := by decide +kernel
theorem dX6_diverts_52 : decode cX6_diverts 52 = .ok (.iconst 5, 1) := by decide +kernel
theorem dX6_diverts_53 : decode cX6_diverts 53 = .ok (.putfield 176, 3) := by decide +kernel
theorem dX6_diverts_56 : decode cX6_diverts 56 = .ok (.iconst 0, 1) := by decide +kernel
theorem dX6_diverts_57 : decode cX6_diverts 57 = .ok (.ireturn, 1) := by decide +kernel
theorem dX6_diverts_58 : decode cX6_diverts 58 = .ok (.aload_n 3, 1) := by decide +kernel
theorem dX6_diverts_59 : decode cX6_diverts 59 = .ok (.invokevirtual 179, 3) := by decide +kernel
theorem dX6_diverts_62 : decode cX6_diverts 62 = .ok (.ifCond .ne 11, 3) := by decide +kernel
theorem dX6_diverts_65 : decode cX6_diverts 65 = .ok (.aload_n 2, 1) := by decide +kernel
theorem dX6_diverts_66 : decode cX6_diverts 66 = .ok (.bipush 6, 2) := by decide +kernel
theorem dX6_diverts_68 : decode cX6_diverts 68 = .ok (.putfield 176, 3) := by decide +kernel
theorem dX6_diverts_71 : decode cX6_diverts 71 = .ok (.iconst 0, 1) := by decide +kernel
theorem dX6_diverts_72 : decode cX6_diverts 72 = .ok (.ireturn, 1) := by decide +kernel
theorem dX6_diverts_73 : decode cX6_diverts 73 = .ok (.iconst 1, 1) := by decide +kernel
theorem dX6_diverts_74 : decode cX6_diverts 74 = .ok (.ireturn, 1) := by decide +kernel
theorem dX6_hasGaps_0 : decode cX6_hasGaps 0 = .ok (.iload_n 1, 1) := by decide +kernel
theorem dX6_hasGaps_1 : decode cX6_hasGaps 1 = .ok (.ifCond .le 22, 3) := by decide +kernel
theorem dX6_hasGaps_4 : decode cX6_hasGaps 4 = .ok (.aload_n 0, 1) := by decide +kernel
theorem dX6_hasGaps_5 : decode cX6_hasGaps 5 = .ok (.iload_n 1, 1) := by decide +kernel
theorem dX6_hasGaps_6 : decode cX6_hasGaps 6 = .ok (.iconst 1, 1) := by decide +kernel
theorem dX6_hasGaps_7 : decode cX6_hasGaps 7 = .ok (.isub, 1) := by decide +kernel
theorem dX6_hasGaps_8 : decode cX6_hasGaps 8 = .ok (.iload_n 1, 1) := by decide +kernel
theorem dX6_hasGaps_9 : decode cX6_hasGaps 9 = .ok (.invokevirtual 183, 3) := by decide +kernel
theorem dX6_hasGaps_12 : decode cX6_hasGaps 12 = .ok (.aload_n 0, 1) := by decide +kernel
theorem dX6_hasGaps_13 : decode cX6_hasGaps 13 = .ok (.getfield 18, 3) := by decide +kernel
theorem dX6_hasGaps_16 : decode cX6_hasGaps 16 = .ok (.iconst 3, 1) := by decide +kernel
theorem dX6_hasGaps_17 : decode cX6_hasGaps 17 = .ok (.iaload, 1) := by decide +kernel
theorem dX6_hasGaps_18 : decode cX6_hasGaps 18 = .ok (.if_icmp .ge 5, 3) := by decide +kernel
theorem dX6_hasGaps_21 : decode cX6_hasGaps 21 = .ok (.iconst 0, 1) := by decide +kernel
theorem dX6_hasGaps_22 : decode cX6_hasGaps 22 = .ok (.ireturn, 1) := by decide +kernel
theorem dX6_hasGaps_23 : decode cX6_hasGaps 23 = .ok (.iload_n 1, 1) := by decide +kernel
theorem dX6_hasGaps_24 : decode cX6_hasGaps 24 = .ok (.iconst 1, 1) := by decide +kernel
theorem dX6_hasGaps_25 : decode cX6_hasGaps 25 = .ok (.iadd, 1) := by decide +kernel
theorem dX6_hasGaps_26 : decode cX6_hasGaps 26 = .ok (.aload_n 0, 1) := by decide +kernel
theorem dX6_hasGaps_27 : decode cX6_hasGaps 27 = .ok (.getfield 65, 3) := by decide +kernel
theorem dX6_hasGaps_30 : decode cX6_hasGaps 30 = .ok (.if_icmp .ge 20, 3) := by decide +kernel
theorem dX6_hasGaps_33 : decode cX6_hasGaps 33 = .ok (.aload_n 0, 1) := by decide +kernel
theorem dX6_hasGaps_34 : decode cX6_hasGaps 34 = .ok (.iload_n 1, 1) := by decide +kernel
theorem dX6_hasGaps_35 : decode cX6_hasGaps 35 = .ok (.iload_n 1, 1) := by decide +kernel
theorem dX6_hasGaps_36 : decode cX6_hasGaps 36 = .ok (.iconst 1, 1) := by decide +kernel
theorem dX6_hasGaps_37 : decode cX6_hasGaps 37 = .ok (.iadd, 1) := by decide +kernel
theorem dX6_hasGaps_38 : decode cX6_hasGaps 38 = .ok (.invokevirtual 183, 3) := by decide +kernel
theorem dX6_hasGaps_41 : decode cX6_hasGaps 41 = .ok (.aload_n 0, 1) := by decide +kernel
theorem dX6_hasGaps_42 : decode cX6_hasGaps 42 = .ok (.getfield 18, 3) := by decide +kernel
theorem dX6_hasGaps_45 : decode cX6_hasGaps 45 = .ok (.iconst 3, 1) := by decide +kernel
theorem dX6_hasGaps_46 : decode cX6_hasGaps 46 = .ok (.iaload, 1) := by decide +kernel
theorem dX6_hasGaps_47 : decode cX6_hasGaps 47 = .ok (.if_icmp .lt 7, 3) := by decide +kernel
theorem dX6_hasGaps_50 : decode cX6_hasGaps 50 = .ok (.iconst 1, 1) := by decide +kernel
theorem dX6_hasGaps_51 : decode cX6_hasGaps 51 = .ok (.goto 4, 3) := by decide +kernel
theorem dX6_hasGaps_54 : decode cX6_hasGaps 54 = .ok (.iconst 0, 1) := by decide +kernel
theorem dX6_hasGaps_55 : decode cX6_hasGaps 55 = .ok (.ireturn, 1) := by decide +kernel
theorem dX6_loseParts_0 : decode cX6_loseParts 0 = .ok (.aload_n 0, 1) := by decide +kernel
theorem dX6_loseParts_1 : decode cX6_loseParts 1 = .ok (.getfield 65, 3) := by decide +kernel
theorem dX6_loseParts_4 : decode cX6_loseParts 4 = .ok (.istore_n 1, 1) := by decide +kernel
theorem dX6_loseParts_5 : decode cX6_loseParts 5 = .ok (.iload_n 1, 1) := by decide +kernel
theorem dX6_loseParts_6 : decode cX6_loseParts 6 = .ok (.ifCond .le 41, 3) := by decide +kernel
theorem dX6_loseParts_9 : decode cX6_loseParts 9 = .ok (.aload_n 0, 1) := by decide +kernel
theorem dX6_loseParts_10 : decode cX6_loseParts 10 = .ok (.getfield 38, 3) := by decide +kernel
theorem dX6_loseParts_13 : decode cX6_loseParts 13 = .ok (.iconst 0, 1) := by decide +kernel
theorem dX6_loseParts_14 : decode cX6_loseParts 14 = .ok (.aaload, 1) := by decide +kernel
theorem dX6_loseParts_15 : decode cX6_loseParts 15 = .ok (.getfield 87, 3) := by decide +kernel
theorem dX6_loseParts_18 : decode cX6_loseParts 18 = .ok (.aload_n 0, 1) := by decide +kernel
theorem dX6_loseParts_19 : decode cX6_loseParts 19 = .ok (.getfield 18, 3) := by decide +kernel
theorem dX6_loseParts_22 : decode cX6_loseParts 22 = .ok (.iconst 4, 1) := by decide +kernel
theorem dX6_loseParts_23 : decode cX6_loseParts 23 = .ok (.iaload, 1) := by decide +kernel
theorem dX6_loseParts_24 : decode cX6_loseParts 24 = .ok (.if_icmp .lt 23, 3) := by decide +kernel
theorem dX6_loseParts_27 : decode cX6_loseParts 27 = .ok (.aload_n 0, 1) := by decide +kernel
theorem dX6_loseParts_28 : decode cX6_loseParts 28 = .ok (.iconst 0, 1) := by decide +kernel
theorem dX6_loseParts_29 : decode cX6_loseParts 29 = .ok (.aload_n 0, 1) := by decide +kernel
theorem dX6_loseParts_30 : decode cX6_loseParts 30 = .ok (.getfield 38, 3) := by decide +kernel
theorem dX6_loseParts_33 : decode cX6_loseParts 33 = .ok (.iconst 0, 1) := by decide +kernel
theorem dX6_loseParts_34 : decode cX6_loseParts 34 = .ok (.aaload, 1) := by decide +kernel
theorem dX6_loseParts_35 : decode cX6_loseParts 35 = .ok (.invokevirtual 186, 3) := by decide +kernel
theorem dX6_loseParts_38 : decode cX6_loseParts 38 = .ok (.invokevirtual 167, 3) := by decide +kernel
theorem dX6_loseParts_41 : decode cX6_loseParts 41 = .ok (.iinc 1 (-1), 3) := by decide +kernel
theorem dX6_loseParts_44 : decode cX6_loseParts 44 = .ok (.goto (-39), 3) := by decide +kernel
theorem dX6_loseParts_47 : decode cX6_loseParts 47 = .ok (.return_, 1) := by decide +kernel
theorem dX6_leave_0 : decode cX6_leave 0 = .ok (.iload_n 1, 1) := by decide +kernel
theorem dX6_leave_1 : decode cX6_leave 1 = .ok (.ifCond .lt 11, 3) := by decide +kernel
theorem dX6_leave_4 : decode cX6_leave 4 = .ok (.iload_n 1, 1) := by decide +kernel
theorem dX6_leave_5 : decode cX6_leave 5 = .ok (.aload_n 0, 1) := by decide +kernel
theorem dX6_leave_6 : decode cX6_leave 6 = .ok (.getfield 65, 3) := by decide +kernel
theorem dX6_leave_9 : decode cX6_leave 9 = .ok (.if_icmp .lt 4, 3) := by decide +kernel
theorem dX6_leave_12 : decode cX6_leave 12 = .ok (.return_, 1) := by decide +kernel
theorem dX6_leave_13 : decode cX6_leave 13 = .ok (.aload_n 0, 1) := by decide +kernel
theorem dX6_leave_14 : decode cX6_leave 14 = .ok (.getfield 38, 3) := by decide +kernel
theorem dX6_leave_17 : decode cX6_leave 17 = .ok (.iload_n 1, 1) := by decide +kernel
theorem dX6_leave_18 : decode cX6_leave 18 = .ok (.aaload, 1) := by decide +kernel
theorem dX6_leave_19 : decode cX6_leave 19 = .ok (.astore_n 3, 1) := by decide +kernel
theorem dX6_leave_20 : decode cX6_leave 20 = .ok (.aload_n 3, 1) := by decide +kernel
theorem dX6_leave_21 : decode cX6_leave 21 = .ok (.iload_n 2, 1) := by decide +kernel
theorem dX6_leave_22 : decode cX6_leave 22 = .ok (.putfield 189, 3) := by decide +kernel
theorem dX6_leave_25 : decode cX6_leave 25 = .ok (.aload_n 0, 1) := by decide +kernel
theorem dX6_leave_26 : decode cX6_leave 26 = .ok (.dup, 1) := by decide +kernel
theorem dX6_leave_27 : decode cX6_leave 27 = .ok (.getfield 65, 3) := by decide +kernel
theorem dX6_leave_30 : decode cX6_leave 30 = .ok (.iconst 1, 1) := by decide +kernel
theorem dX6_leave_31 : decode cX6_leave 31 = .ok (.isub, 1) := by decide +kernel
theorem dX6_leave_32 : decode cX6_leave 32 = .ok (.putfield 65, 3) := by decide +kernel
theorem dX6_leave_35 : decode cX6_leave 35 = .ok (.iload_n 1, 1) := by decide +kernel
theorem dX6_leave_36 : decode cX6_leave 36 = .ok (.istore 4, 2) := by decide +kernel
theorem dX6_leave_38 : decode cX6_leave 38 = .ok (.iload 4, 2) := by decide +kernel
theorem dX6_leave_40 : decode cX6_leave 40 = .ok (.aload_n 0, 1) := by decide +kernel
theorem dX6_leave_41 : decode cX6_leave 41 = .ok (.getfield 65, 3) := by decide +kernel
theorem dX6_leave_44 : decode cX6_leave 44 = .ok (.if_icmp .ge 25, 3) := by decide +kernel
theorem dX6_leave_47 : decode cX6_leave 47 = .ok (.aload_n 0, 1) := by decide +kernel
theorem dX6_leave_48 : decode cX6_leave 48 = .ok (.getfield 38, 3) := by decide +kernel
theorem dX6_leave_51 : decode cX6_leave 51 = .ok (.iload 4, 2) := by decide +kernel
theorem dX6_leave_53 : decode cX6_leave 53 = .ok (.aload_n 0, 1) := by decide +kernel
theorem dX6_leave_54 : decode cX6_leave 54 = .ok (.getfield 38, 3) := by decide +kernel
theorem dX6_leave_57 : decode cX6_leave 57 = .ok (.iload 4, 2) := by decide +kernel
theorem dX6_leave_59 : decode cX6_leave 59 = .ok (.iconst 1, 1) := by decide +kernel
theorem dX6_leave_60 : decode cX6_leave 60 = .ok (.iadd, 1) := by decide +kernel
theorem dX6_leave_61 : decode cX6_leave 61 = .ok (.aaload, 1) := by decide +kernel
theorem dX6_leave_62 : decode cX6_leave 62 = .ok (.aastore, 1) := by decide +kernel
theorem dX6_leave_63 : decode cX6_leave 63 = .ok (.iinc 4 1, 3) := by decide +kernel
theorem dX6_leave_66 : decode cX6_leave 66 = .ok (.goto (-28), 3) := by decide +kernel
theorem dX6_leave_69 : decode cX6_leave 69 = .ok (.aload_n 0, 1) := by decide +kernel
theorem dX6_leave_70 : decode cX6_leave 70 = .ok (.getfield 38, 3) := by decide +kernel
theorem dX6_leave_73 : decode cX6_leave 73 = .ok (.aload_n 0, 1) := by decide +kernel
theorem dX6_leave_74 : decode cX6_leave 74 = .ok (.getfield 65, 3) := by decide +kernel
theorem dX6_leave_77 : decode cX6_leave 77 = .ok (.aload_n 3, 1) := by decide +kernel
theorem dX6_leave_78 : decode cX6_leave 78 = .ok (.aastore, 1) := by decide +kernel
theorem dX6_leave_79 : decode cX6_leave 79 = .ok (.return_, 1) := by decide +kernel
theorem dX6_rankOf_0 : decode cX6_rankOf 0 = .ok (.iconst 0, 1) := by decide +kernel
theorem dX6_rankOf_1 : decode cX6_rankOf 1 = .ok (.istore_n 2, 1) := by decide +kernel
theorem dX6_rankOf_2 : decode cX6_rankOf 2 = .ok (.aload_n 0, 1) := by decide +kernel
theorem dX6_rankOf_3 : decode cX6_rankOf 3 = .ok (.iload_n 1, 1) := by decide +kernel
theorem dX6_rankOf_4 : decode cX6_rankOf 4 = .ok (.invokevirtual 192, 3) := by decide +kernel
theorem dX6_rankOf_7 : decode cX6_rankOf 7 = .ok (.istore_n 3, 1) := by decide +kernel
theorem dX6_rankOf_8 : decode cX6_rankOf 8 = .ok (.iconst 0, 1) := by decide +kernel
theorem dX6_rankOf_9 : decode cX6_rankOf 9 = .ok (.istore 4, 2) := by decide +kernel
theorem dX6_rankOf_11 : decode cX6_rankOf 11 = .ok (.iload 4, 2) := by decide +kernel
theorem dX6_rankOf_13 : decode cX6_rankOf 13 = .ok (.aload_n 0, 1) := by decide +kernel
theorem dX6_rankOf_14 : decode cX6_rankOf 14 = .ok (.getfield 65, 3) := by decide +kernel
theorem dX6_rankOf_17 : decode cX6_rankOf 17 = .ok (.if_icmp .ge 38, 3) := by decide +kernel
theorem dX6_rankOf_20 : decode cX6_rankOf 20 = .ok (.aload_n 0, 1) := by decide +kernel
theorem dX6_rankOf_21 : decode cX6_rankOf 21 = .ok (.iload 4, 2) := by decide +kernel
theorem dX6_rankOf_23 : decode cX6_rankOf 23 = .ok (.invokevirtual 192, 3) := by decide +kernel
theorem dX6_rankOf_26 : decode cX6_rankOf 26 = .ok (.istore 5, 2) := by decide +kernel
theorem dX6_rankOf_28 : decode cX6_rankOf 28 = .ok (.iload 5, 2) := by decide +kernel
theorem dX6_rankOf_30 : decode cX6_rankOf 30 = .ok (.iload_n 3, 1) := by decide +kernel
theorem dX6_rankOf_31 : decode cX6_rankOf 31 = .ok (.if_icmp .lt 15, 3) := by decide +kernel
theorem dX6_rankOf_34 : decode cX6_rankOf 34 = .ok (.iload 5, 2) := by decide +kernel
theorem dX6_rankOf_36 : decode cX6_rankOf 36 = .ok (.iload_n 3, 1) := by decide +kernel
theorem dX6_rankOf_37 : decode cX6_rankOf 37 = .ok (.if_icmp .ne 12, 3) := by decide +kernel
theorem dX6_rankOf_40 : decode cX6_rankOf 40 = .ok (.iload 4, 2) := by decide +kernel
theorem dX6_rankOf_42 : decode cX6_rankOf 42 = .ok (.iload_n 1, 1) := by decide +kernel
theorem dX6_rankOf_43 : decode cX6_rankOf 43 = .ok (.if_icmp .ge 6, 3) := by decide +kernel
theorem dX6_rankOf_46 : decode cX6_rankOf 46 = .ok (.iinc 2 1, 3) := by decide +kernel
theorem dX6_rankOf_49 : decode cX6_rankOf 49 = .ok (.iinc 4 1, 3) := by decide +kernel
theorem dX6_rankOf_52 : decode cX6_rankOf 52 = .ok (.goto (-41), 3) := by decide +kernel
theorem dX6_rankOf_55 : decode cX6_rankOf 55 = .ok (.iload_n 2, 1) := by decide +kernel
theorem dX6_rankOf_56 : decode cX6_rankOf 56 = .ok (.ireturn, 1) := by decide +kernel
theorem dX6_distanceToLane_0 : decode cX6_distanceToLane 0 = .ok (.aload_n 0, 1) := by decide +kernel
theorem dX6_distanceToLane_1 : decode cX6_distanceToLane 1 = .ok (.getfield 38, 3) := by decide +kernel
theorem dX6_distanceToLane_4 : decode cX6_distanceToLane 4 = .ok (.iload_n 1, 1) := by decide +kernel
theorem dX6_distanceToLane_5 : decode cX6_distanceToLane 5 = .ok (.aaload, 1) := by decide +kernel
theorem dX6_distanceToLane_6 : decode cX6_distanceToLane 6 = .ok (.astore_n 2, 1) := by decide +kernel
theorem dX6_distanceToLane_7 : decode cX6_distanceToLane 7 = .ok (.aload_n 0, 1) := by decide +kernel
theorem dX6_distanceToLane_8 : decode cX6_distanceToLane 8 = .ok (.aload_n 2, 1) := by decide +kernel
theorem dX6_distanceToLane_9 : decode cX6_distanceToLane 9 = .ok (.getfield 131, 3) := by decide +kernel
theorem dX6_distanceToLane_12 : decode cX6_distanceToLane 12 = .ok (.invokevirtual 124, 3) := by decide +kernel
theorem dX6_distanceToLane_15 : decode cX6_distanceToLane 15 = .ok (.ifCond .eq 23, 3) := by decide +kernel
theorem dX6_distanceToLane_18 : decode cX6_distanceToLane 18 = .ok (.aload_n 0, 1) := by decide +kernel
theorem dX6_distanceToLane_19 : decode cX6_distanceToLane 19 = .ok (.getfield 25, 3) := by decide +kernel
theorem dX6_distanceToLane_22 : decode cX6_distanceToLane 22 = .ok (.aload_n 2, 1) := by decide +kernel
theorem dX6_distanceToLane_23 : decode cX6_distanceToLane 23 = .ok (.getfield 131, 3) := by decide +kernel
theorem dX6_distanceToLane_26 : decode cX6_distanceToLane 26 = .ok (.aaload, 1) := by decide +kernel
theorem dX6_distanceToLane_27 : decode cX6_distanceToLane 27 = .ok (.getfield 158, 3) := by decide +kernel
theorem dX6_distanceToLane_30 : decode cX6_distanceToLane 30 = .ok (.aload_n 2, 1) := by decide +kernel
theorem dX6_distanceToLane_31 : decode cX6_distanceToLane 31 = .ok (.invokevirtual 161, 3) := by decide +kernel
theorem dX6_distanceToLane_34 : decode cX6_distanceToLane 34 = .ok (.isub, 1) := by decide +kernel
theorem dX6_distanceToLane_35 : decode cX6_distanceToLane 35 = .ok (.goto 5, 3) := by decide +kernel
theorem dX6_distanceToLane_38 : decode cX6_distanceToLane 38 = .ok (.ldc 90, 2) := by decide +kernel
theorem dX6_distanceToLane_40 : decode cX6_distanceToLane 40 = .ok (.ireturn, 1) := by decide +kernel
theorem dX7_init_0 : decode cX7_init 0 = .ok (.aload_n 0, 1) := by decide +kernel
theorem dX7_init_1 : decode cX7_init 1 = .ok (.invokespecial 1, 3) := by decide +kernel
theorem dX7_init_4 : decode cX7_init 4 = .ok (.aload_n 0, 1) := by decide +kernel
theorem dX7_init_5 : decode cX7_init 5 = .ok (.bipush 6, 2) := by decide +kernel
theorem dX7_init_7 : decode cX7_init 7 = .ok (.anewarray 9, 3) := by decide +kernel
theorem dX7_init_10 : decode cX7_init 10 = .ok (.putfield 11, 3) := by decide +kernel
theorem dX7_init_13 : decode cX7_init 13 = .ok (.aload_n 0, 1) := by decide +kernel
theorem dX7_init_14 : decode cX7_init 14 = .ok (.new 15, 3) := by decide +kernel
theorem dX7_init_17 : decode cX7_init 17 = .ok (.dup, 1) := by decide +kernel
theorem dX7_init_18 : decode cX7_init 18 = .ok (.invokespecial 17, 3) := by decide +kernel
theorem dX7_init_21 : decode cX7_init 21 = .ok (.putfield 18, 3) := by decide +kernel
theorem dX7_init_24 : decode cX7_init 24 = .ok (.aload_n 0, 1) := by decide +kernel
theorem dX7_init_25 : decode cX7_init 25 = .ok (.new 22, 3) := by decide +kernel
theorem dX7_init_28 : decode cX7_init 28 = .ok (.dup, 1) := by decide +kernel
theorem dX7_init_29 : decode cX7_init 29 = .ok (.invokespecial 24, 3) := by decide +kernel
theorem dX7_init_32 : decode cX7_init 32 = .ok (.putfield 25, 3) := by decide +kernel
theorem dX7_init_35 : decode cX7_init 35 = .ok (.aload_n 0, 1) := by decide +kernel
theorem dX7_init_36 : decode cX7_init 36 = .ok (.new 29, 3) := by decide +kernel
theorem dX7_init_39 : decode cX7_init 39 = .ok (.dup, 1) := by decide +kernel
theorem dX7_init_40 : decode cX7_init 40 = .ok (.invokespecial 31, 3) := by decide +kernel
theorem dX7_init_43 : decode cX7_init 43 = .ok (.putfield 32, 3) := by decide +kernel
theorem dX7_init_46 : decode cX7_init 46 = .ok (.new 29, 3) := by decide +kernel
theorem dX7_init_49 : decode cX7_init 49 = .ok (.dup, 1) := by decide +kernel
theorem dX7_init_50 : decode cX7_init 50 = .ok (.invokespecial 31, 3) := by decide +kernel
theorem dX7_init_53 : decode cX7_init 53 = .ok (.astore_n 1, 1) := by decide +kernel
theorem dX7_init_54 : decode cX7_init 54 = .ok (.aload_n 1, 1) := by decide +kernel
theorem dX7_init_55 : decode cX7_init 55 = .ok (.iconst (-1), 1) := by decide +kernel
theorem dX7_init_56 : decode cX7_init 56 = .ok (.invokevirtual 36, 3) := by decide +kernel
theorem dX7_init_59 : decode cX7_init 59 = .ok (.aload_n 0, 1) := by decide +kernel
theorem dX7_init_60 : decode cX7_init 60 = .ok (.new 9, 3) := by decide +kernel
theorem dX7_init_63 : decode cX7_init 63 = .ok (.dup, 1) := by decide +kernel
theorem dX7_init_64 : decode cX7_init 64 = .ok (.aload_n 1, 1) := by decide +kernel
theorem dX7_init_65 : decode cX7_init 65 = .ok (.invokespecial 40, 3) := by decide +kernel
theorem dX7_init_68 : decode cX7_init 68 = .ok (.putfield 43, 3) := by decide +kernel
theorem dX7_init_71 : decode cX7_init 71 = .ok (.aload_n 0, 1) := by decide +kernel
theorem dX7_init_72 : decode cX7_init 72 = .ok (.new 9, 3) := by decide +kernel
theorem dX7_init_75 : decode cX7_init 75 = .ok (.dup, 1) := by decide +kernel
theorem dX7_init_76 : decode cX7_init 76 = .ok (.aload_n 1, 1) := by decide +kernel
theorem dX7_init_77 : decode cX7_init 77 = .ok (.invokespecial 40, 3) := by decide +kernel
theorem dX7_init_80 : decode cX7_init 80 = .ok (.putfield 47, 3) := by decide +kernel
theorem dX7_init_83 : decode cX7_init 83 = .ok (.iconst 0, 1) := by decide +kernel
theorem dX7_init_84 : decode cX7_init 84 = .ok (.istore_n 2, 1) := by decide +kernel
theorem dX7_init_85 : decode cX7_init 85 = .ok (.iload_n 2, 1) := by decide +kernel
theorem dX7_init_86 : decode cX7_init 86 = .ok (.bipush 6, 2) := by decide +kernel
theorem dX7_init_88 : decode cX7_init 88 = .ok (.if_icmp .ge 23, 3) := by decide +kernel
theorem dX7_init_91 : decode cX7_init 91 = .ok (.aload_n 0, 1) := by decide +kernel
theorem dX7_init_92 : decode cX7_init 92 = .ok (.getfield 11, 3) := by decide +kernel
theorem dX7_init_95 : decode cX7_init 95 = .ok (.iload_n 2, 1) := by decide +kernel
theorem dX7_init_96 : decode cX7_init 96 = .ok (.new 9, 3) := by decide +kernel
theorem dX7_init_99 : decode cX7_init 99 = .ok (.dup, 1) := by decide +kernel
theorem dX7_init_100 : decode cX7_init 100 = .ok (.aload_n 1, 1) := by decide +kernel
theorem dX7_init_101 : decode cX7_init 101 = .ok (.invokespecial 40, 3) := by decide +kernel
theorem dX7_init_104 : decode cX7_init 104 = .ok (.aastore, 1) := by decide +kernel
theorem dX7_init_105 : decode cX7_init 105 = .ok (.iinc 2 1, 3) := by decide +kernel
theorem dX7_init_108 : decode cX7_init 108 = .ok (.goto (-23), 3) := by decide +kernel
theorem dX7_init_111 : decode cX7_init 111 = .ok (.return_, 1) := by decide +kernel
theorem dX7_set_0 : decode cX7_set 0 = .ok (.iload_n 1, 1) := by decide +kernel
theorem dX7_set_1 : decode cX7_set 1 = .ok (.ifCond .lt 9, 3) := by decide +kernel
theorem dX7_set_4 : decode cX7_set 4 = .ok (.iload_n 1, 1) := by decide +kernel
theorem dX7_set_5 : decode cX7_set 5 = .ok (.bipush 6, 2) := by decide +kernel
theorem dX7_set_7 : decode cX7_set 7 = .ok (.if_icmp .lt 13, 3) := by decide +kernel
theorem dX7_set_10 : decode cX7_set 10 = .ok (.new 50, 3) := by decide +kernel
theorem dX7_set_13 : decode cX7_set 13 = .ok (.dup, 1) := by decide +kernel
theorem dX7_set_14 : decode cX7_set 14 = .ok (.ldc 52, 2) := by decide +kernel
theorem dX7_set_16 : decode cX7_set 16 = .ok (.invokespecial 54, 3) := by decide +kernel
theorem dX7_set_19 : decode cX7_set 19 = .ok (.athrow, 1) := by decide +kernel
theorem dX7_set_20 : decode cX7_set 20 = .ok (.iload_n 2, 1) := by decide +kernel
theorem dX7_set_21 : decode cX7_set 21 = .ok (.getstatic 57, 3) := by decide +kernel
theorem dX7_set_24 : decode cX7_set 24 = .ok (.iload_n 1, 1) := by decide +kernel
theorem dX7_set_25 : decode cX7_set 25 = .ok (.iaload, 1) := by decide +kernel
theorem dX7_set_26 : decode cX7_set 26 = .ok (.if_icmp .lt 12, 3) := by decide +kernel
theorem dX7_set_29 : decode cX7_set 29 = .ok (.iload_n 2, 1) := by decide +kernel
theorem dX7_set_30 : decode cX7_set 30 = .ok (.getstatic 61, 3) := by decide +kernel
theorem dX7_set_33 : decode cX7_set 33 = .ok (.iload_n 1, 1) := by decide +kernel
theorem dX7_set_34 : decode cX7_set 34 = .ok (.iaload, 1) := by decide +kernel
theorem dX7_set_35 : decode cX7_set 35 = .ok (.if_icmp .le 13, 3) := by decide +kernel
theorem dX7_set_38 : decode cX7_set 38 = .ok (.new 64, 3) := by decide +kernel
theorem dX7_set_41 : decode cX7_set 41 = .ok (.dup, 1) := by decide +kernel
theorem dX7_set_42 : decode cX7_set 42 = .ok (.ldc 66, 2) := by decide +kernel
theorem dX7_set_44 : decode cX7_set 44 = .ok (.invokespecial 68, 3) := by decide +kernel
theorem dX7_set_47 : decode cX7_set 47 = .ok (.athrow, 1) := by decide +kernel
theorem dX7_set_48 : decode cX7_set 48 = .ok (.aload_n 0, 1) := by decide +kernel
theorem dX7_set_49 : decode cX7_set 49 = .ok (.getfield 43, 3) := by decide +kernel
theorem dX7_set_52 : decode cX7_set 52 = .ok (.getfield 69, 3) := by decide +kernel
theorem dX7_set_55 : decode cX7_set 55 = .ok (.ifCond .le 13, 3) := by decide +kernel
theorem dX7_set_58 : decode cX7_set 58 = .ok (.new 73, 3) := by decide +kernel
theorem dX7_set_61 : decode cX7_set 61 = .ok (.dup, 1) := by decide +kernel
theorem dX7_set_62 : decode cX7_set 62 = .ok (.ldc 75, 2) := by decide +kernel
theorem dX7_set_64 : decode cX7_set 64 = .ok (.invokespecial 77, 3) := by decide +kernel
theorem dX7_set_67 : decode cX7_set 67 = .ok (.athrow, 1) := by decide +kernel
theorem dX7_set_68 : decode cX7_set 68 = .ok (.aload_n 0, 1) := by decide +kernel
theorem dX7_set_69 : decode cX7_set 69 = .ok (.invokevirtual 78, 3) := by decide +kernel
theorem dX7_set_72 : decode cX7_set 72 = .ok (.aload_n 0, 1) := by decide +kernel
theorem dX7_set_73 : decode cX7_set 73 = .ok (.getfield 43, 3) := by decide +kernel
theorem dX7_set_76 : decode cX7_set 76 = .ok (.getfield 81, 3) := by decide +kernel
theorem dX7_set_79 : decode cX7_set 79 = .ok (.iload_n 1, 1) := by decide +kernel
theorem dX7_set_80 : decode cX7_set 80 = .ok (.iaload, 1) := by decide +kernel
theorem dX7_set_81 : decode cX7_set 81 = .ok (.istore_n 3, 1) := by decide +kernel
theorem dX7_set_82 : decode cX7_set 82 = .ok (.aload_n 0, 1) := by decide +kernel
theorem dX7_set_83 : decode cX7_set 83 = .ok (.getfield 43, 3) := by decide +kernel
theorem dX7_set_86 : decode cX7_set 86 = .ok (.getfield 81, 3) := by decide +kernel
theorem dX7_set_89 : decode cX7_set 89 = .ok (.iload_n 1, 1) := by decide +kernel
theorem dX7_set_90 : decode cX7_set 90 = .ok (.iload_n 2, 1) := by decide +kernel
theorem dX7_set_91 : decode cX7_set 91 = .ok (.iastore, 1) := by decide +kernel
theorem dX7_set_92 : decode cX7_set 92 = .ok (.iload_n 3, 1) := by decide +kernel
theorem dX7_set_93 : decode cX7_set 93 = .ok (.ireturn, 1) := by decide +kernel
theorem dX7_addLane_0 : decode cX7_addLane 0 = .ok (.iload_n 1, 1) := by decide +kernel
theorem dX7_addLane_1 : decode cX7_addLane 1 = .ok (.iconst 1, 1) := by decide +kernel
theorem dX7_addLane_2 : decode cX7_addLane 2 = .ok (.if_icmp .lt 10, 3) := by decide +kernel
theorem dX7_addLane_5 : decode cX7_addLane 5 = .ok (.iload_n 1, 1) := by decide +kernel
theorem dX7_addLane_6 : decode cX7_addLane 6 = .ok (.sipush 4999, 3) := by decide +kernel
theorem dX7_addLane_9 : decode cX7_addLane 9 = .ok (.if_icmp .le 13, 3) := by decide +kernel
theorem dX7_addLane_12 : decode cX7_addLane 12 = .ok (.new 64, 3) := by decide +kernel
theorem dX7_addLane_15 : decode cX7_addLane 15 = .ok (.dup, 1) := by decide +kernel
theorem dX7_addLane_16 : decode cX7_addLane 16 = .ok (.ldc 84, 2) := by decide +kernel
theorem dX7_addLane_18 : decode cX7_addLane 18 = .ok (.invokespecial 68, 3) := by decide +kernel
theorem dX7_addLane_21 : decode cX7_addLane 21 = .ok (.athrow, 1) := by decide +kernel
theorem dX7_addLane_22 : decode cX7_addLane 22 = .ok (.iload_n 2, 1) := by decide +kernel
theorem dX7_addLane_23 : decode cX7_addLane 23 = .ok (.iconst 1, 1) := by decide +kernel
theorem dX7_addLane_24 : decode cX7_addLane 24 = .ok (.if_icmp .lt 10, 3) := by decide +kernel
theorem dX7_addLane_27 : decode cX7_addLane 27 = .ok (.iload_n 2, 1) := by decide +kernel
theorem dX7_addLane_28 : decode cX7_addLane 28 = .ok (.sipush 200, 3) := by decide +kernel
theorem dX7_addLane_31 : decode cX7_addLane 31 = .ok (.if_icmp .le 13, 3) := by decide +kernel
theorem dX7_addLane_34 : decode cX7_addLane 34 = .ok (.new 64, 3) := by decide +kernel
theorem dX7_addLane_37 : decode cX7_addLane 37 = .ok (.dup, 1) := by decide +kernel
theorem dX7_addLane_38 : decode cX7_addLane 38 = .ok (.ldc 86, 2) := by decide +kernel
theorem dX7_addLane_40 : decode cX7_addLane 40 = .ok (.invokespecial 68, 3) := by decide +kernel
theorem dX7_addLane_43 : decode cX7_addLane 43 = .ok (.athrow, 1) := by decide +kernel
theorem dX7_addLane_44 : decode cX7_addLane 44 = .ok (.iload_n 3, 1) := by decide +kernel
theorem dX7_addLane_45 : decode cX7_addLane 45 = .ok (.iconst 1, 1) := by decide +kernel
theorem dX7_addLane_46 : decode cX7_addLane 46 = .ok (.if_icmp .lt 9, 3) := by decide +kernel
theorem dX7_addLane_49 : decode cX7_addLane 49 = .ok (.iload_n 3, 1) := by decide +kernel
theorem dX7_addLane_50 : decode cX7_addLane 50 = .ok (.bipush 50, 2) := by decide +kernel
theorem dX7_addLane_52 : decode cX7_addLane 52 = .ok (.if_icmp .le 13, 3) := by decide +kernel
theorem dX7_addLane_55 : decode cX7_addLane 55 = .ok (.new 64, 3) := by decide +kernel
theorem dX7_addLane_58 : decode cX7_addLane 58 = .ok (.dup, 1) := by decide +kernel
theorem dX7_addLane_59 : decode cX7_addLane 59 = .ok (.ldc 88, 2) := by decide +kernel
theorem dX7_addLane_61 : decode cX7_addLane 61 = .ok (.invokespecial 68, 3) := by decide +kernel
theorem dX7_addLane_64 : decode cX7_addLane 64 = .ok (.athrow, 1) := by decide +kernel
theorem dX7_addLane_65 : decode cX7_addLane 65 = .ok (.aload_n 0, 1) := by decide +kernel
theorem dX7_addLane_66 : decode cX7_addLane 66 = .ok (.getfield 43, 3) := by decide +kernel
theorem dX7_addLane_69 : decode cX7_addLane 69 = .ok (.getfield 90, 3) := by decide +kernel
theorem dX7_addLane_72 : decode cX7_addLane 72 = .ok (.bipush 6, 2) := by decide +kernel
theorem dX7_addLane_74 : decode cX7_addLane 74 = .ok (.if_icmp .lt 13, 3) := by decide +kernel
theorem dX7_addLane_77 : decode cX7_addLane 77 = .ok (.new 73, 3) := by decide +kernel
theorem dX7_addLane_80 : decode cX7_addLane 80 = .ok (.dup, 1) := by decide +kernel
theorem dX7_addLane_81 : decode cX7_addLane 81 = .ok (.ldc 93, 2) := by decide +kernel
theorem dX7_addLane_83 : decode cX7_addLane 83 = .ok (.invokespecial 77, 3) := by decide +kernel
theorem dX7_addLane_86 : decode cX7_addLane 86 = .ok (.athrow, 1) := by decide +kernel
theorem dX7_addLane_87 : decode cX7_addLane 87 = .ok (.aload_n 0, 1) := by decide +kernel
theorem dX7_addLane_88 : decode cX7_addLane 88 = .ok (.invokevirtual 78, 3) := by decide +kernel
theorem dX7_addLane_91 : decode cX7_addLane 91 = .ok (.aload_n 0, 1) := by decide +kernel
theorem dX7_addLane_92 : decode cX7_addLane 92 = .ok (.getfield 43, 3) := by decide +kernel
theorem dX7_addLane_95 : decode cX7_addLane 95 = .ok (.getfield 90, 3) := by decide +kernel
theorem dX7_addLane_98 : decode cX7_addLane 98 = .ok (.istore 4, 2) := by decide +kernel
theorem dX7_addLane_100 : decode cX7_addLane 100 = .ok (.aload_n 0, 1) := by decide +kernel
theorem dX7_addLane_101 : decode cX7_addLane 101 = .ok (.getfield 43, 3) := by decide +kernel
theorem dX7_addLane_104 : decode cX7_addLane 104 = .ok (.getfield 95, 3) := by decide +kernel
theorem dX7_addLane_107 : decode cX7_addLane 107 = .ok (.iload 4, 2) := by decide +kernel
theorem dX7_addLane_109 : decode cX7_addLane 109 = .ok (.aaload, 1) := by decide +kernel
theorem dX7_addLane_110 : decode cX7_addLane 110 = .ok (.iload_n 1, 1) := by decide +kernel
theorem dX7_addLane_111 : decode cX7_addLane 111 = .ok (.iload_n 2, 1) := by decide +kernel
theorem dX7_addLane_112 : decode cX7_addLane 112 = .ok (.iload_n 3, 1) := by decide +kernel
theorem dX7_addLane_113 : decode cX7_addLane 113 = .ok (.invokevirtual 99, 3) := by decide +kernel
theorem dX7_addLane_116 : decode cX7_addLane 116 = .ok (.aload_n 0, 1) := by decide +kernel
theorem dX7_addLane_117 : decode cX7_addLane 117 = .ok (.getfield 43, 3) := by decide +kernel
theorem dX7_addLane_120 : decode cX7_addLane 120 = .ok (.dup, 1) := by decide +kernel
theorem dX7_addLane_121 : decode cX7_addLane 121 = .ok (.getfield 90, 3) := by decide +kernel
theorem dX7_addLane_124 : decode cX7_addLane 124 = .ok (.iconst 1, 1) := by decide +kernel
theorem dX7_addLane_125 : decode cX7_addLane 125 = .ok (.iadd, 1) := by decide +kernel
theorem dX7_addLane_126 : decode cX7_addLane 126 = .ok (.putfield 90, 3) := by decide +kernel
theorem dX7_addLane_129 : decode cX7_addLane 129 = .ok (.iload 4, 2) := by decide +kernel
theorem dX7_addLane_131 : decode cX7_addLane 131 = .ok (.ireturn, 1) := by decide +kernel
theorem dX7_emptyLane_0 : decode cX7_emptyLane 0 = .ok (.aload_n 0, 1) := by decide +kernel
theorem dX7_emptyLane_1 : decode cX7_emptyLane 1 = .ok (.getfield 43, 3) := by decide +kernel
theorem dX7_emptyLane_4 : decode cX7_emptyLane 4 = .ok (.iload_n 1, 1) := by decide +kernel
theorem dX7_emptyLane_5 : decode cX7_emptyLane 5 = .ok (.invokevirtual 105, 3) := by decide +kernel
theorem dX7_emptyLane_8 : decode cX7_emptyLane 8 = .ok (.ifCond .ne 13, 3) := by decide +kernel
theorem dX7_emptyLane_11 : decode cX7_emptyLane 11 = .ok (.new 50, 3) := by decide +kernel
theorem dX7_emptyLane_14 : decode cX7_emptyLane 14 = .ok (.dup, 1) := by decide +kernel
theorem dX7_emptyLane_15 : decode cX7_emptyLane 15 = .ok (.ldc 109, 2) := by decide +kernel
theorem dX7_emptyLane_17 : decode cX7_emptyLane 17 = .ok (.invokespecial 54, 3) := by decide +kernel
theorem dX7_emptyLane_20 : decode cX7_emptyLane 20 = .ok (.athrow, 1) := by decide +kernel
theorem dX7_emptyLane_21 : decode cX7_emptyLane 21 = .ok (.aload_n 0, 1) := by decide +kernel
theorem dX7_emptyLane_22 : decode cX7_emptyLane 22 = .ok (.invokevirtual 78, 3) := by decide +kernel
theorem dX7_emptyLane_25 : decode cX7_emptyLane 25 = .ok (.aload_n 0, 1) := by decide +kernel
theorem dX7_emptyLane_26 : decode cX7_emptyLane 26 = .ok (.getfield 43, 3) := by decide +kernel
theorem dX7_emptyLane_29 : decode cX7_emptyLane 29 = .ok (.getfield 95, 3) := by decide +kernel
theorem dX7_emptyLane_32 : decode cX7_emptyLane 32 = .ok (.iload_n 1, 1) := by decide +kernel
theorem dX7_emptyLane_33 : decode cX7_emptyLane 33 = .ok (.aaload, 1) := by decide +kernel
theorem dX7_emptyLane_34 : decode cX7_emptyLane 34 = .ok (.getfield 111, 3) := by decide +kernel
theorem dX7_emptyLane_37 : decode cX7_emptyLane 37 = .ok (.istore_n 2, 1) := by decide +kernel
theorem dX7_emptyLane_38 : decode cX7_emptyLane 38 = .ok (.aload_n 0, 1) := by decide +kernel
theorem dX7_emptyLane_39 : decode cX7_emptyLane 39 = .ok (.getfield 43, 3) := by decide +kernel
theorem dX7_emptyLane_42 : decode cX7_emptyLane 42 = .ok (.getfield 95, 3) := by decide +kernel
theorem dX7_emptyLane_45 : decode cX7_emptyLane 45 = .ok (.iload_n 1, 1) := by decide +kernel
theorem dX7_emptyLane_46 : decode cX7_emptyLane 46 = .ok (.aaload, 1) := by decide +kernel
theorem dX7_emptyLane_47 : decode cX7_emptyLane 47 = .ok (.iconst 0, 1) := by decide +kernel
theorem dX7_emptyLane_48 : decode cX7_emptyLane 48 = .ok (.putfield 111, 3) := by decide +kernel
theorem dX7_emptyLane_51 : decode cX7_emptyLane 51 = .ok (.iload_n 2, 1) := by decide +kernel
theorem dX7_emptyLane_52 : decode cX7_emptyLane 52 = .ok (.ireturn, 1) := by decide +kernel
theorem dX7_route_0 : decode cX7_route 0 = .ok (.iload_n 1, 1) := by decide +kernel
theorem dX7_route_1 : decode cX7_route 1 = .ok (.ifCond .lt 10, 3) := by decide +kernel
theorem dX7_route_4 : decode cX7_route 4 = .ok (.iload_n 1, 1) := by decide +kernel
theorem dX7_route_5 : decode cX7_route 5 = .ok (.sipush 999, 3) := by decide +kernel
theorem dX7_route_8 : decode cX7_route 8 = .ok (.if_icmp .le 13, 3) := by decide +kernel
theorem dX7_route_11 : decode cX7_route 11 = .ok (.new 64, 3) := by decide +kernel
theorem dX7_route_14 : decode cX7_route 14 = .ok (.dup, 1) := by decide +kernel
theorem dX7_route_15 : decode cX7_route 15 = .ok (.ldc 114, 2) := by decide +kernel
theorem dX7_route_17 : decode cX7_route 17 = .ok (.invokespecial 68, 3) := by decide +kernel
theorem dX7_route_20 : decode cX7_route 20 = .ok (.athrow, 1) := by decide +kernel
theorem dX7_route_21 : decode cX7_route 21 = .ok (.aload_n 0, 1) := by decide +kernel
theorem dX7_route_22 : decode cX7_route 22 = .ok (.getfield 43, 3) := by decide +kernel
theorem dX7_route_25 : decode cX7_route 25 = .ok (.iload_n 2, 1) := by decide +kernel
theorem dX7_route_26 : decode cX7_route 26 = .ok (.invokevirtual 105, 3) := by decide +kernel
theorem dX7_route_29 : decode cX7_route 29 = .ok (.ifCond .ne 13, 3) := by decide +kernel
theorem dX7_route_32 : decode cX7_route 32 = .ok (.new 50, 3) := by decide +kernel
theorem dX7_route_35 : decode cX7_route 35 = .ok (.dup, 1) := by decide +kernel
theorem dX7_route_36 : decode cX7_route 36 = .ok (.ldc 109, 2) := by decide +kernel
theorem dX7_route_38 : decode cX7_route 38 = .ok (.invokespecial 54, 3) := by decide +kernel
theorem dX7_route_41 : decode cX7_route 41 = .ok (.athrow, 1) := by decide +kernel
theorem dX7_route_42 : decode cX7_route 42 = .ok (.aload_n 0, 1) := by decide +kernel
theorem dX7_route_43 : decode cX7_route 43 = .ok (.getfield 43, 3) := by decide +kernel
theorem dX7_route_46 : decode cX7_route 46 = .ok (.getfield 116, 3) := by decide +kernel
theorem dX7_route_49 : decode cX7_route 49 = .ok (.iload_n 1, 1) := by decide +kernel
theorem dX7_route_50 : decode cX7_route 50 = .ok (.invokevirtual 120, 3) := by decide +kernel
theorem dX7_route_53 : decode cX7_route 53 = .ok (.istore_n 3, 1) := by decide +kernel
theorem dX7_route_54 : decode cX7_route 54 = .ok (.iload_n 3, 1) := by decide +kernel
theorem dX7_route_55 : decode cX7_route 55 = .ok (.iconst (-1), 1) := by decide +kernel
theorem dX7_route_56 : decode cX7_route 56 = .ok (.if_icmp .ne 28, 3) := by decide +kernel
theorem dX7_route_59 : decode cX7_route 59 = .ok (.aload_n 0, 1) := by decide +kernel
theorem dX7_route_60 : decode cX7_route 60 = .ok (.getfield 43, 3) := by decide +kernel
theorem dX7_route_63 : decode cX7_route 63 = .ok (.getfield 116, 3) := by decide +kernel
theorem dX7_route_66 : decode cX7_route 66 = .ok (.getfield 126, 3) := by decide +kernel
theorem dX7_route_69 : decode cX7_route 69 = .ok (.bipush 30, 2) := by decide +kernel
theorem dX7_route_71 : decode cX7_route 71 = .ok (.if_icmp .lt 13, 3) := by decide +kernel
theorem dX7_route_74 : decode cX7_route 74 = .ok (.new 73, 3) := by decide +kernel
theorem dX7_route_77 : decode cX7_route 77 = .ok (.dup, 1) := by decide +kernel
theorem dX7_route_78 : decode cX7_route 78 = .ok (.ldc 129, 2) := by decide +kernel
theorem dX7_route_80 : decode cX7_route 80 = .ok (.invokespecial 77, 3) := by decide +kernel
theorem dX7_route_83 : decode cX7_route 83 = .ok (.athrow, 1) := by decide +kernel
theorem dX7_route_84 : decode cX7_route 84 = .ok (.aload_n 0, 1) := by decide +kernel
theorem dX7_route_85 : decode cX7_route 85 = .ok (.invokevirtual 78, 3) := by decide +kernel
theorem dX7_route_88 : decode cX7_route 88 = .ok (.aload_n 0, 1) := by decide +kernel
theorem dX7_route_89 : decode cX7_route 89 = .ok (.getfield 43, 3) := by decide +kernel
theorem dX7_route_92 : decode cX7_route 92 = .ok (.getfield 116, 3) := by decide +kernel
theorem dX7_route_95 : decode cX7_route 95 = .ok (.iload_n 1, 1) := by decide +kernel
theorem dX7_route_96 : decode cX7_route 96 = .ok (.iload_n 2, 1) := by decide +kernel
theorem dX7_route_97 : decode cX7_route 97 = .ok (.invokevirtual 131, 3) := by decide +kernel
theorem dX7_route_100 : decode cX7_route 100 = .ok (.iload_n 3, 1) := by decide +kernel
theorem dX7_route_101 : decode cX7_route 101 = .ok (.ireturn, 1) := by decide +kernel
theorem dX7_removeRoute_0 : decode cX7_removeRoute 0 = .ok (.iload_n 1, 1) := by decide +kernel
theorem dX7_removeRoute_1 : decode cX7_removeRoute 1 = .ok (.ifCond .lt 10, 3) := by decide +kernel
theorem dX7_removeRoute_4 : decode cX7_removeRoute 4 = .ok (.iload_n 1, 1) := by decide +kernel
theorem dX7_removeRoute_5 : decode cX7_removeRoute 5 = .ok (.sipush 999, 3) := by decide +kernel
theorem dX7_removeRoute_8 : decode cX7_removeRoute 8 = .ok (.if_icmp .le 13, 3) := by decide +kernel
theorem dX7_removeRoute_11 : decode cX7_removeRoute 11 = .ok (.new 64, 3) := by decide +kernel
theorem dX7_removeRoute_14 : decode cX7_removeRoute 14 = .ok (.dup, 1) := by decide +kernel
theorem dX7_removeRoute_15 : decode cX7_removeRoute 15 = .ok (.ldc 114, 2) := by decide +kernel
theorem dX7_removeRoute_17 : decode cX7_removeRoute 17 = .ok (.invokespecial 68, 3) := by decide +kernel
theorem dX7_removeRoute_20 : decode cX7_removeRoute 20 = .ok (.athrow, 1) := by decide +kernel
theorem dX7_removeRoute_21 : decode cX7_removeRoute 21 = .ok (.aload_n 0, 1) := by decide +kernel
theorem dX7_removeRoute_22 : decode cX7_removeRoute 22 = .ok (.getfield 43, 3) := by decide +kernel
theorem dX7_removeRoute_25 : decode cX7_removeRoute 25 = .ok (.getfield 116, 3) := by decide +kernel
theorem dX7_removeRoute_28 : decode cX7_removeRoute 28 = .ok (.iload_n 1, 1) := by decide +kernel
theorem dX7_removeRoute_29 : decode cX7_removeRoute 29 = .ok (.invokevirtual 120, 3) := by decide +kernel
theorem dX7_removeRoute_32 : decode cX7_removeRoute 32 = .ok (.istore_n 2, 1) := by decide +kernel
theorem dX7_removeRoute_33 : decode cX7_removeRoute 33 = .ok (.iload_n 2, 1) := by decide +kernel
theorem dX7_removeRoute_34 : decode cX7_removeRoute 34 = .ok (.iconst (-1), 1) := by decide +kernel
theorem dX7_removeRoute_35 : decode cX7_removeRoute 35 = .ok (.if_icmp .ne 13, 3) := by decide +kernel
theorem dX7_removeRoute_38 : decode cX7_removeRoute 38 = .ok (.new 73, 3) := by decide +kernel
theorem dX7_removeRoute_41 : decode cX7_removeRoute 41 = .ok (.dup, 1) := by decide +kernel
theorem dX7_removeRoute_42 : decode cX7_removeRoute 42 = .ok (.ldc 135, 2) := by decide +kernel
theorem dX7_removeRoute_44 : decode cX7_removeRoute 44 = .ok (.invokespecial 77, 3) := by decide +kernel
theorem dX7_removeRoute_47 : decode cX7_removeRoute 47 = .ok (.athrow, 1) := by decide +kernel
theorem dX7_removeRoute_48 : decode cX7_removeRoute 48 = .ok (.aload_n 0, 1) := by decide +kernel
theorem dX7_removeRoute_49 : decode cX7_removeRoute 49 = .ok (.invokevirtual 78, 3) := by decide +kernel
theorem dX7_removeRoute_52 : decode cX7_removeRoute 52 = .ok (.aload_n 0, 1) := by decide +kernel
theorem dX7_removeRoute_53 : decode cX7_removeRoute 53 = .ok (.getfield 43, 3) := by decide +kernel
theorem dX7_removeRoute_56 : decode cX7_removeRoute 56 = .ok (.getfield 116, 3) := by decide +kernel
theorem dX7_removeRoute_59 : decode cX7_removeRoute 59 = .ok (.iload_n 1, 1) := by decide +kernel
theorem dX7_removeRoute_60 : decode cX7_removeRoute 60 = .ok (.invokevirtual 137, 3) := by decide +kernel
theorem dX7_removeRoute_63 : decode cX7_removeRoute 63 = .ok (.iload_n 2, 1) := by decide +kernel
theorem dX7_removeRoute_64 : decode cX7_removeRoute 64 = .ok (.ireturn, 1) := by decide +kernel
theorem dX7_enter_0 : decode cX7_enter 0 = .ok (.iload_n 1, 1) := by decide +kernel
theorem dX7_enter_1 : decode cX7_enter 1 = .ok (.bipush 10, 2) := by decide +kernel
theorem dX7_enter_3 : decode cX7_enter 3 = .ok (.if_icmp .lt 10, 3) := by decide +kernel
theorem dX7_enter_6 : decode cX7_enter 6 = .ok (.iload_n 1, 1) := by decide +kernel
theorem dX7_enter_7 : decode cX7_enter 7 = .ok (.sipush 400, 3) := by decide +kernel
theorem dX7_enter_10 : decode cX7_enter 10 = .ok (.if_icmp .le 13, 3) := by decide +kernel
theorem dX7_enter_13 : decode cX7_enter 13 = .ok (.new 64, 3) := by decide +kernel
theorem dX7_enter_16 : decode cX7_enter 16 = .ok (.dup, 1) := by decide +kernel
theorem dX7_enter_17 : decode cX7_enter 17 = .ok (.ldc 140, 2) := by decide +kernel
theorem dX7_enter_19 : decode cX7_enter 19 = .ok (.invokespecial 68, 3) := by decide +kernel
theorem dX7_enter_22 : decode cX7_enter 22 = .ok (.athrow, 1) := by decide +kernel
theorem dX7_enter_23 : decode cX7_enter 23 = .ok (.aload_n 0, 1) := by decide +kernel
theorem dX7_enter_24 : decode cX7_enter 24 = .ok (.getfield 43, 3) := by decide +kernel
theorem dX7_enter_27 : decode cX7_enter 27 = .ok (.invokevirtual 142, 3) := by decide +kernel
theorem dX7_enter_30 : decode cX7_enter 30 = .ok (.ifCond .ge 13, 3) := by decide +kernel
theorem dX7_enter_33 : decode cX7_enter 33 = .ok (.new 73, 3) := by decide +kernel
theorem dX7_enter_36 : decode cX7_enter 36 = .ok (.dup, 1) := by decide +kernel
theorem dX7_enter_37 : decode cX7_enter 37 = .ok (.ldc 146, 2) := by decide +kernel
theorem dX7_enter_39 : decode cX7_enter 39 = .ok (.invokespecial 77, 3) := by decide +kernel
theorem dX7_enter_42 : decode cX7_enter 42 = .ok (.athrow, 1) := by decide +kernel
theorem dX7_enter_43 : decode cX7_enter 43 = .ok (.aload_n 0, 1) := by decide +kernel
theorem dX7_enter_44 : decode cX7_enter 44 = .ok (.getfield 43, 3) := by decide +kernel
theorem dX7_enter_47 : decode cX7_enter 47 = .ok (.getfield 69, 3) := by decide +kernel
theorem dX7_enter_50 : decode cX7_enter 50 = .ok (.bipush 20, 2) := by decide +kernel
theorem dX7_enter_52 : decode cX7_enter 52 = .ok (.if_icmp .ge 16, 3) := by decide +kernel
theorem dX7_enter_55 : decode cX7_enter 55 = .ok (.aload_n 0, 1) := by decide +kernel
theorem dX7_enter_56 : decode cX7_enter 56 = .ok (.getfield 43, 3) := by decide +kernel
theorem dX7_enter_59 : decode cX7_enter 59 = .ok (.getfield 148, 3) := by decide +kernel
theorem dX7_enter_62 : decode cX7_enter 62 = .ok (.sipush 300, 3) := by decide +kernel
theorem dX7_enter_65 : decode cX7_enter 65 = .ok (.if_icmp .lt 13, 3) := by decide +kernel
theorem dX7_enter_68 : decode cX7_enter 68 = .ok (.new 73, 3) := by decide +kernel
theorem dX7_enter_71 : decode cX7_enter 71 = .ok (.dup, 1) := by decide +kernel
theorem dX7_enter_72 : decode cX7_enter 72 = .ok (.ldc 151, 2) := by decide +kernel
theorem dX7_enter_74 : decode cX7_enter 74 = .ok (.invokespecial 77, 3) := by decide +kernel
theorem dX7_enter_77 : decode cX7_enter 77 = .ok (.athrow, 1) := by decide +kernel
theorem dX7_enter_78 : decode cX7_enter 78 = .ok (.aload_n 0, 1) := by decide +kernel
theorem dX7_enter_79 : decode cX7_enter 79 = .ok (.invokevirtual 78, 3) := by decide +kernel
theorem dX7_enter_82 : decode cX7_enter 82 = .ok (.aload_n 0, 1) := by decide +kernel
theorem dX7_enter_83 : decode cX7_enter 83 = .ok (.getfield 43, 3) := by decide +kernel
theorem dX7_enter_86 : decode cX7_enter 86 = .ok (.iload_n 1, 1) := by decide +kernel
theorem dX7_enter_87 : decode cX7_enter 87 = .ok (.invokevirtual 153, 3) := by decide +kernel
theorem dX7_enter_90 : decode cX7_enter 90 = .ok (.ireturn, 1) := by decide +kernel
theorem dX7_read_0 : decode cX7_read 0 = .ok (.iload_n 1, 1) := by decide +kernel
theorem dX7_read_1 : decode cX7_read 1 = .ok (.ifCond .lt 10, 3) := by decide +kernel
theorem dX7_read_4 : decode cX7_read 4 = .ok (.iload_n 1, 1) := by decide +kernel
theorem dX7_read_5 : decode cX7_read 5 = .ok (.sipush 999, 3) := by decide +kernel
theorem dX7_read_8 : decode cX7_read 8 = .ok (.if_icmp .le 13, 3) := by decide +kernel
theorem dX7_read_11 : decode cX7_read 11 = .ok (.new 64, 3) := by decide +kernel
theorem dX7_read_14 : decode cX7_read 14 = .ok (.dup, 1) := by decide +kernel
theorem dX7_read_15 : decode cX7_read 15 = .ok (.ldc 114, 2) := by decide +kernel
theorem dX7_read_17 : decode cX7_read 17 = .ok (.invokespecial 68, 3) := by decide +kernel
theorem dX7_read_20 : decode cX7_read 20 = .ok (.athrow, 1) := by decide +kernel
theorem dX7_read_21 : decode cX7_read 21 = .ok (.aload_n 0, 1) := by decide +kernel
theorem dX7_read_22 : decode cX7_read 22 = .ok (.invokevirtual 78, 3) := by decide +kernel
theorem dX7_read_25 : decode cX7_read 25 = .ok (.aload_n 0, 1) := by decide +kernel
theorem dX7_read_26 : decode cX7_read 26 = .ok (.getfield 43, 3) := by decide +kernel
theorem dX7_read_29 : decode cX7_read 29 = .ok (.invokevirtual 156, 3) := by decide +kernel
theorem dX7_read_32 : decode cX7_read 32 = .ok (.astore_n 2, 1) := by decide +kernel
theorem dX7_read_33 : decode cX7_read 33 = .ok (.aload_n 2, 1) := by decide +kernel
theorem dX7_read_34 : decode cX7_read 34 = .ok (.ifnonnull 18, 3) := by decide +kernel
theorem dX7_read_37 : decode cX7_read 37 = .ok (.aload_n 0, 1) := by decide +kernel
theorem dX7_read_38 : decode cX7_read 38 = .ok (.getfield 43, 3) := by decide +kernel
theorem dX7_read_41 : decode cX7_read 41 = .ok (.dup, 1) := by decide +kernel
theorem dX7_read_42 : decode cX7_read 42 = .ok (.getfield 160, 3) := by decide +kernel
theorem dX7_read_45 : decode cX7_read 45 = .ok (.iconst 1, 1) := by decide +kernel
theorem dX7_read_46 : decode cX7_read 46 = .ok (.iadd, 1) := by decide +kernel
theorem dX7_read_47 : decode cX7_read 47 = .ok (.putfield 160, 3) := by decide +kernel
theorem dX7_read_50 : decode cX7_read 50 = .ok (.iconst (-1), 1) := by decide +kernel
theorem dX7_read_51 : decode cX7_read 51 = .ok (.ireturn, 1) := by decide +kernel
theorem dX7_read_52 : decode cX7_read 52 = .ok (.aload_n 2, 1) := by decide +kernel
theorem dX7_read_53 : decode cX7_read 53 = .ok (.iload_n 1, 1) := by decide +kernel
theorem dX7_read_54 : decode cX7_read 54 = .ok (.aload_n 0, 1) := by decide +kernel
theorem dX7_read_55 : decode cX7_read 55 = .ok (.getfield 43, 3) := by decide +kernel
theorem dX7_read_58 : decode cX7_read 58 = .ok (.getfield 163, 3) := by decide +kernel
theorem dX7_read_61 : decode cX7_read 61 = .ok (.aload_n 0, 1) := by decide +kernel
theorem dX7_read_62 : decode cX7_read 62 = .ok (.getfield 43, 3) := by decide +kernel
theorem dX7_read_65 : decode cX7_read 65 = .ok (.getfield 81, 3) := by decide +kernel
theorem dX7_read_68 : decode cX7_read 68 = .ok (.iconst 2, 1) := by decide +kernel
theorem dX7_read_69 : decode cX7_read 69 = .ok (.iaload, 1) := by decide +kernel
theorem dX7_read_70 : decode cX7_read 70 = .ok (.invokevirtual 166, 3) := by decide +kernel
theorem dX7_read_73 : decode cX7_read 73 = .ok (.aload_n 2, 1) := by decide +kernel
theorem dX7_read_74 : decode cX7_read 74 = .ok (.getfield 171, 3) := by decide +kernel
theorem dX7_read_77 : decode cX7_read 77 = .ok (.ireturn, 1) := by decide +kernel
theorem dX7_move_0 : decode cX7_move 0 = .ok (.iload_n 1, 1) := by decide +kernel
theorem dX7_move_1 : decode cX7_move 1 = .ok (.iconst 1, 1) := by decide +kernel
theorem dX7_move_2 : decode cX7_move 2 = .ok (.if_icmp .lt 10, 3) := by decide +kernel
theorem dX7_move_5 : decode cX7_move 5 = .ok (.iload_n 1, 1) := by decide +kernel
theorem dX7_move_6 : decode cX7_move 6 = .ok (.sipush 500, 3) := by decide +kernel
theorem dX7_move_9 : decode cX7_move 9 = .ok (.if_icmp .le 13, 3) := by decide +kernel
theorem dX7_move_12 : decode cX7_move 12 = .ok (.new 64, 3) := by decide +kernel
theorem dX7_move_15 : decode cX7_move 15 = .ok (.dup, 1) := by decide +kernel
theorem dX7_move_16 : decode cX7_move 16 = .ok (.ldc 174, 2) := by decide +kernel
theorem dX7_move_18 : decode cX7_move 18 = .ok (.invokespecial 68, 3) := by decide +kernel
theorem dX7_move_21 : decode cX7_move 21 = .ok (.athrow, 1) := by decide +kernel
theorem dX7_move_22 : decode cX7_move 22 = .ok (.aload_n 0, 1) := by decide +kernel
theorem dX7_move_23 : decode cX7_move 23 = .ok (.getfield 43, 3) := by decide +kernel
theorem dX7_move_26 : decode cX7_move 26 = .ok (.getfield 163, 3) := by decide +kernel
theorem dX7_move_29 : decode cX7_move 29 = .ok (.iload_n 1, 1) := by decide +kernel
theorem dX7_move_30 : decode cX7_move 30 = .ok (.iadd, 1) := by decide +kernel
theorem dX7_move_31 : decode cX7_move 31 = .ok (.ldc 176, 2) := by decide +kernel
theorem dX7_move_33 : decode cX7_move 33 = .ok (.if_icmp .le 13, 3) := by decide +kernel
theorem dX7_move_36 : decode cX7_move 36 = .ok (.new 73, 3) := by decide +kernel
theorem dX7_move_39 : decode cX7_move 39 = .ok (.dup, 1) := by decide +kernel
theorem dX7_move_40 : decode cX7_move 40 = .ok (.ldc 177, 2) := by decide +kernel
theorem dX7_move_42 : decode cX7_move 42 = .ok (.invokespecial 77, 3) := by decide +kernel
theorem dX7_move_45 : decode cX7_move 45 = .ok (.athrow, 1) := by decide +kernel
theorem dX7_move_46 : decode cX7_move 46 = .ok (.aload_n 0, 1) := by decide +kernel
theorem dX7_move_47 : decode cX7_move 47 = .ok (.invokevirtual 78, 3) := by decide +kernel
theorem dX7_move_50 : decode cX7_move 50 = .ok (.aload_n 0, 1) := by decide +kernel
theorem dX7_move_51 : decode cX7_move 51 = .ok (.getfield 43, 3) := by decide +kernel
theorem dX7_move_54 : decode cX7_move 54 = .ok (.getfield 69, 3) := by decide +kernel
theorem dX7_move_57 : decode cX7_move 57 = .ok (.istore_n 2, 1) := by decide +kernel
theorem dX7_move_58 : decode cX7_move 58 = .ok (.aload_n 0, 1) := by decide +kernel
theorem dX7_move_59 : decode cX7_move 59 = .ok (.getfield 43, 3) := by decide +kernel
theorem dX7_move_62 : decode cX7_move 62 = .ok (.invokevirtual 179, 3) := by decide +kernel
theorem dX7_move_65 : decode cX7_move 65 = .ok (.iconst 0, 1) := by decide +kernel
theorem dX7_move_66 : decode cX7_move 66 = .ok (.istore_n 3, 1) := by decide +kernel
theorem dX7_move_67 : decode cX7_move 67 = .ok (.iconst 0, 1) := by decide +kernel
theorem dX7_move_68 : decode cX7_move 68 = .ok (.istore 4, 2) := by decide +kernel
theorem dX7_move_70 : decode cX7_move 70 = .ok (.iload 4, 2) := by decide +kernel
theorem dX7_move_72 : decode cX7_move 72 = .ok (.iload_n 1, 1) := by decide +kernel
theorem dX7_move_73 : decode cX7_move 73 = .ok (.if_icmp .ge 27, 3) := by decide +kernel
theorem dX7_move_76 : decode cX7_move 76 = .ok (.iload_n 3, 1) := by decide +kernel
theorem dX7_move_77 : decode cX7_move 77 = .ok (.iload_n 1, 1) := by decide +kernel
theorem dX7_move_78 : decode cX7_move 78 = .ok (.if_icmp .ge 22, 3) := by decide +kernel
theorem dX7_move_81 : decode cX7_move 81 = .ok (.iload_n 3, 1) := by decide +kernel
theorem dX7_move_82 : decode cX7_move 82 = .ok (.aload_n 0, 1) := by decide +kernel
theorem dX7_move_83 : decode cX7_move 83 = .ok (.getfield 43, 3) := by decide +kernel
theorem dX7_move_86 : decode cX7_move 86 = .ok (.iload_n 1, 1) := by decide +kernel
theorem dX7_move_87 : decode cX7_move 87 = .ok (.iload_n 3, 1) := by decide +kernel
theorem dX7_move_88 : decode cX7_move 88 = .ok (.isub, 1) := by decide +kernel
theorem dX7_move_89 : decode cX7_move 89 = .ok (.invokevirtual 182, 3) := by decide +kernel
theorem dX7_move_92 : decode cX7_move 92 = .ok (.iadd, 1) := by decide +kernel
theorem dX7_move_93 : decode cX7_move 93 = .ok (.istore_n 3, 1) := by decide +kernel
theorem dX7_move_94 : decode cX7_move 94 = .ok (.iinc 4 1, 3) := by decide +kernel
theorem dX7_move_97 : decode cX7_move 97 = .ok (.goto (-27), 3) := by decide +kernel
theorem dX7_move_100 : decode cX7_move 100 = .ok (.aload_n 0, 1) := by decide +kernel
theorem dX7_move_101 : decode cX7_move 101 = .ok (.iload_n 2, 1) := by decide +kernel
theorem dX7_move_102 : decode cX7_move 102 = .ok (.invokevirtual 185, 3) := by decide +kernel
theorem dX7_move_105 : decode cX7_move 105 = .ok (.iload_n 2, 1) := by decide +kernel
theorem dX7_move_106 : decode cX7_move 106 = .ok (.aload_n 0, 1) := by decide +kernel
theorem dX7_move_107 : decode cX7_move 107 = .ok (.getfield 43, 3) := by decide +kernel
theorem dX7_move_110 : decode cX7_move 110 = .ok (.getfield 69, 3) := by decide +kernel
theorem dX7_move_113 : decode cX7_move 113 = .ok (.isub, 1) := by decide +kernel
theorem dX7_move_114 : decode cX7_move 114 = .ok (.ireturn, 1) := by decide +kernel
theorem dX7_takeOff_0 : decode cX7_takeOff 0 = .ok (.aload_n 0, 1) := by decide +kernel
theorem dX7_takeOff_1 : decode cX7_takeOff 1 = .ok (.iload_n 1, 1) := by decide +kernel
theorem dX7_takeOff_2 : decode cX7_takeOff 2 = .ok (.invokevirtual 188, 3) := by decide +kernel
theorem dX7_takeOff_5 : decode cX7_takeOff 5 = .ok (.ifCond .ne 13, 3) := by decide +kernel
theorem dX7_takeOff_8 : decode cX7_takeOff 8 = .ok (.new 50, 3) := by decide +kernel
theorem dX7_takeOff_11 : decode cX7_takeOff 11 = .ok (.dup, 1) := by decide +kernel
theorem dX7_takeOff_12 : decode cX7_takeOff 12 = .ok (.ldc 191, 2) := by decide +kernel
theorem dX7_takeOff_14 : decode cX7_takeOff 14 = .ok (.invokespecial 54, 3) := by decide +kernel
theorem dX7_takeOff_17 : decode cX7_takeOff 17 = .ok (.athrow, 1) := by decide +kernel
theorem dX7_takeOff_18 : decode cX7_takeOff 18 = .ok (.aload_n 0, 1) := by decide +kernel
theorem dX7_takeOff_19 : decode cX7_takeOff 19 = .ok (.getfield 43, 3) := by decide +kernel
theorem dX7_takeOff_22 : decode cX7_takeOff 22 = .ok (.iload_n 1, 1) := by decide +kernel
theorem dX7_takeOff_23 : decode cX7_takeOff 23 = .ok (.invokevirtual 193, 3) := by decide +kernel
theorem dX7_takeOff_26 : decode cX7_takeOff 26 = .ok (.istore_n 2, 1) := by decide +kernel
theorem dX7_takeOff_27 : decode cX7_takeOff 27 = .ok (.iload_n 2, 1) := by decide +kernel
theorem dX7_takeOff_28 : decode cX7_takeOff 28 = .ok (.iconst (-1), 1) := by decide +kernel
theorem dX7_takeOff_29 : decode cX7_takeOff 29 = .ok (.if_icmp .ne 13, 3) := by decide +kernel
theorem dX7_takeOff_32 : decode cX7_takeOff 32 = .ok (.new 73, 3) := by decide +kernel
theorem dX7_takeOff_35 : decode cX7_takeOff 35 = .ok (.dup, 1) := by decide +kernel
theorem dX7_takeOff_36 : decode cX7_takeOff 36 = .ok (.ldc 196, 2) := by decide +kernel
theorem dX7_takeOff_38 : decode cX7_takeOff 38 = .ok (.invokespecial 77, 3) := by decide +kernel
theorem dX7_takeOff_41 : decode cX7_takeOff 41 = .ok (.athrow, 1) := by decide +kernel
theorem dX7_takeOff_42 : decode cX7_takeOff 42 = .ok (.aload_n 0, 1) := by decide +kernel
theorem dX7_takeOff_43 : decode cX7_takeOff 43 = .ok (.invokevirtual 78, 3) := by decide +kernel
theorem dX7_takeOff_46 : decode cX7_takeOff 46 = .ok (.aload_n 0, 1) := by decide +kernel
theorem dX7_takeOff_47 : decode cX7_takeOff 47 = .ok (.getfield 43, 3) := by decide +kernel
theorem dX7_takeOff_50 : decode cX7_takeOff 50 = .ok (.getfield 69, 3) := by decide +kernel
theorem dX7_takeOff_53 : decode cX7_takeOff 53 = .ok (.istore_n 3, 1) := by decide +kernel
theorem dX7_takeOff_54 : decode cX7_takeOff 54 = .ok (.aload_n 0, 1) := by decide +kernel
theorem dX7_takeOff_55 : decode cX7_takeOff 55 = .ok (.getfield 43, 3) := by decide +kernel
theorem dX7_takeOff_58 : decode cX7_takeOff 58 = .ok (.getfield 198, 3) := by decide +kernel
theorem dX7_takeOff_61 : decode cX7_takeOff 61 = .ok (.iload_n 2, 1) := by decide +kernel
theorem dX7_takeOff_62 : decode cX7_takeOff 62 = .ok (.aaload, 1) := by decide +kernel
theorem dX7_takeOff_63 : decode cX7_takeOff 63 = .ok (.getfield 202, 3) := by decide +kernel
theorem dX7_takeOff_66 : decode cX7_takeOff 66 = .ok (.istore 4, 2) := by decide +kernel
theorem dX7_takeOff_68 : decode cX7_takeOff 68 = .ok (.aload_n 0, 1) := by decide +kernel
theorem dX7_takeOff_69 : decode cX7_takeOff 69 = .ok (.getfield 43, 3) := by decide +kernel
theorem dX7_takeOff_72 : decode cX7_takeOff 72 = .ok (.iload_n 2, 1) := by decide +kernel
theorem dX7_takeOff_73 : decode cX7_takeOff 73 = .ok (.bipush 9, 2) := by decide +kernel
theorem dX7_takeOff_75 : decode cX7_takeOff 75 = .ok (.invokevirtual 205, 3) := by decide +kernel
theorem dX7_takeOff_78 : decode cX7_takeOff 78 = .ok (.aload_n 0, 1) := by decide +kernel
theorem dX7_takeOff_79 : decode cX7_takeOff 79 = .ok (.iload_n 3, 1) := by decide +kernel
theorem dX7_takeOff_80 : decode cX7_takeOff 80 = .ok (.invokevirtual 185, 3) := by decide +kernel
theorem dX7_takeOff_83 : decode cX7_takeOff 83 = .ok (.iload 4, 2) := by decide +kernel
theorem dX7_takeOff_85 : decode cX7_takeOff 85 = .ok (.ireturn, 1) := by decide +kernel
theorem dX7_undo_0 : decode cX7_undo 0 = .ok (.aload_n 0, 1) := by decide +kernel
theorem dX7_undo_1 : decode cX7_undo 1 = .ok (.getfield 208, 3) := by decide +kernel
theorem dX7_undo_4 : decode cX7_undo 4 = .ok (.ifCond .gt 13, 3) := by decide +kernel
theorem dX7_undo_7 : decode cX7_undo 7 = .ok (.new 73, 3) := by decide +kernel
theorem dX7_undo_10 : decode cX7_undo 10 = .ok (.dup, 1) := by decide +kernel
theorem dX7_undo_11 : decode cX7_undo 11 = .ok (.ldc 211, 2) := by decide +kernel
theorem dX7_undo_13 : decode cX7_undo 13 = .ok (.invokespecial 77, 3) := by decide +kernel
theorem dX7_undo_16 : decode cX7_undo 16 = .ok (.athrow, 1) := by decide +kernel
theorem dX7_undo_17 : decode cX7_undo 17 = .ok (.aload_n 0, 1) := by decide +kernel
theorem dX7_undo_18 : decode cX7_undo 18 = .ok (.dup, 1) := by decide +kernel
theorem dX7_undo_19 : decode cX7_undo 19 = .ok (.getfield 208, 3) := by decide +kernel
theorem dX7_undo_22 : decode cX7_undo 22 = .ok (.iconst 1, 1) := by decide +kernel
theorem dX7_undo_23 : decode cX7_undo 23 = .ok (.isub, 1) := by decide +kernel
theorem dX7_undo_24 : decode cX7_undo 24 = .ok (.putfield 208, 3) := by decide +kernel
theorem dX7_undo_27 : decode cX7_undo 27 = .ok (.aload_n 0, 1) := by decide +kernel
theorem dX7_undo_28 : decode cX7_undo 28 = .ok (.getfield 43, 3) := by decide +kernel
theorem dX7_undo_31 : decode cX7_undo 31 = .ok (.aload_n 0, 1) := by decide +kernel
theorem dX7_undo_32 : decode cX7_undo 32 = .ok (.getfield 11, 3) := by decide +kernel
theorem dX7_undo_35 : decode cX7_undo 35 = .ok (.aload_n 0, 1) := by decide +kernel
theorem dX7_undo_36 : decode cX7_undo 36 = .ok (.getfield 208, 3) := by decide +kernel
theorem dX7_undo_39 : decode cX7_undo 39 = .ok (.aaload, 1) := by decide +kernel
theorem dX7_undo_40 : decode cX7_undo 40 = .ok (.invokevirtual 213, 3) := by decide +kernel
theorem dX7_undo_43 : decode cX7_undo 43 = .ok (.aload_n 0, 1) := by decide +kernel
theorem dX7_undo_44 : decode cX7_undo 44 = .ok (.getfield 208, 3) := by decide +kernel
theorem dX7_undo_47 : decode cX7_undo 47 = .ok (.ireturn, 1) := by decide +kernel
theorem dX7_part_0 : decode cX7_part 0 = .ok (.aload_n 0, 1) := by decide +kernel
theorem dX7_part_1 : decode cX7_part 1 = .ok (.iload_n 1, 1) := by decide +kernel
theorem dX7_part_2 : decode cX7_part 2 = .ok (.invokevirtual 188, 3) := by decide +kernel
theorem dX7_part_5 : decode cX7_part 5 = .ok (.ifCond .ne 13, 3) := by decide +kernel
theorem dX7_part_8 : decode cX7_part 8 = .ok (.new 50, 3) := by decide +kernel
theorem dX7_part_11 : decode cX7_part 11 = .ok (.dup, 1) := by decide +kernel
theorem dX7_part_12 : decode cX7_part 12 = .ok (.ldc 191, 2) := by decide +kernel
theorem dX7_part_14 : decode cX7_part 14 = .ok (.invokespecial 54, 3) := by decide +kernel
theorem dX7_part_17 : decode cX7_part 17 = .ok (.athrow, 1) := by decide +kernel
theorem dX7_part_18 : decode cX7_part 18 = .ok (.iload_n 2, 1) := by decide +kernel
theorem dX7_part_19 : decode cX7_part 19 = .ok (.ifCond .lt 9, 3) := by decide +kernel
theorem dX7_part_22 : decode cX7_part 22 = .ok (.iload_n 2, 1) := by decide +kernel
theorem dX7_part_23 : decode cX7_part 23 = .ok (.bipush 10, 2) := by decide +kernel
theorem dX7_part_25 : decode cX7_part 25 = .ok (.if_icmp .lt 13, 3) := by decide +kernel
theorem dX7_part_28 : decode cX7_part 28 = .ok (.new 64, 3) := by decide +kernel
theorem dX7_part_31 : decode cX7_part 31 = .ok (.dup, 1) := by decide +kernel
theorem dX7_part_32 : decode cX7_part 32 = .ok (.ldc 217, 2) := by decide +kernel
theorem dX7_part_34 : decode cX7_part 34 = .ok (.invokespecial 68, 3) := by decide +kernel
theorem dX7_part_37 : decode cX7_part 37 = .ok (.athrow, 1) := by decide +kernel
theorem dX7_part_38 : decode cX7_part 38 = .ok (.aload_n 0, 1) := by decide +kernel
theorem dX7_part_39 : decode cX7_part 39 = .ok (.iload_n 1, 1) := by decide +kernel
theorem dX7_part_40 : decode cX7_part 40 = .ok (.iload_n 2, 1) := by decide +kernel
theorem dX7_part_41 : decode cX7_part 41 = .ok (.invokevirtual 219, 3) := by decide +kernel
theorem dX7_part_44 : decode cX7_part 44 = .ok (.ireturn, 1) := by decide +kernel
theorem dX7_lane_0 : decode cX7_lane 0 = .ok (.aload_n 0, 1) := by decide +kernel
theorem dX7_lane_1 : decode cX7_lane 1 = .ok (.getfield 43, 3) := by decide +kernel
theorem dX7_lane_4 : decode cX7_lane 4 = .ok (.iload_n 1, 1) := by decide +kernel
theorem dX7_lane_5 : decode cX7_lane 5 = .ok (.invokevirtual 105, 3) := by decide +kernel
theorem dX7_lane_8 : decode cX7_lane 8 = .ok (.ifCond .ne 13, 3) := by decide +kernel
theorem dX7_lane_11 : decode cX7_lane 11 = .ok (.new 50, 3) := by decide +kernel
theorem dX7_lane_14 : decode cX7_lane 14 = .ok (.dup, 1) := by decide +kernel
theorem dX7_lane_15 : decode cX7_lane 15 = .ok (.ldc 109, 2) := by decide +kernel
theorem dX7_lane_17 : decode cX7_lane 17 = .ok (.invokespecial 54, 3) := by decide +kernel
theorem dX7_lane_20 : decode cX7_lane 20 = .ok (.athrow, 1) := by decide +kernel
theorem dX7_lane_21 : decode cX7_lane 21 = .ok (.iload_n 2, 1) := by decide +kernel
theorem dX7_lane_22 : decode cX7_lane 22 = .ok (.ifCond .lt 9, 3) := by decide +kernel
theorem dX7_lane_25 : decode cX7_lane 25 = .ok (.iload_n 2, 1) := by decide +kernel
theorem dX7_lane_26 : decode cX7_lane 26 = .ok (.bipush 6, 2) := by decide +kernel
theorem dX7_lane_28 : decode cX7_lane 28 = .ok (.if_icmp .lt 13, 3) := by decide +kernel
theorem dX7_lane_31 : decode cX7_lane 31 = .ok (.new 64, 3) := by decide +kernel
theorem dX7_lane_34 : decode cX7_lane 34 = .ok (.dup, 1) := by decide +kernel
theorem dX7_lane_35 : decode cX7_lane 35 = .ok (.ldc 217, 2) := by decide +kernel
theorem dX7_lane_37 : decode cX7_lane 37 = .ok (.invokespecial 68, 3) := by decide +kernel
theorem dX7_lane_40 : decode cX7_lane 40 = .ok (.athrow, 1) := by decide +kernel
theorem dX7_lane_41 : decode cX7_lane 41 = .ok (.iload_n 2, 1) := by decide +kernel
theorem dX7_lane_42 : decode cX7_lane 42 = .ok (.iconst 5, 1) := by decide +kernel
theorem dX7_lane_43 : decode cX7_lane 43 = .ok (.if_icmp .ne 17, 3) := by decide +kernel
theorem dX7_lane_46 : decode cX7_lane 46 = .ok (.aload_n 0, 1) := by decide +kernel
theorem dX7_lane_47 : decode cX7_lane 47 = .ok (.getfield 43, 3) := by decide +kernel
theorem dX7_lane_50 : decode cX7_lane 50 = .ok (.getfield 116, 3) := by decide +kernel
theorem dX7_lane_53 : decode cX7_lane 53 = .ok (.iload_n 1, 1) := by decide +kernel
theorem dX7_lane_54 : decode cX7_lane 54 = .ok (.invokevirtual 223, 3) := by decide +kernel
theorem dX7_lane_57 : decode cX7_lane 57 = .ok (.goto 16, 3) := by decide +kernel
theorem dX7_lane_60 : decode cX7_lane 60 = .ok (.aload_n 0, 1) := by decide +kernel
theorem dX7_lane_61 : decode cX7_lane 61 = .ok (.getfield 43, 3) := by decide +kernel
theorem dX7_lane_64 : decode cX7_lane 64 = .ok (.getfield 95, 3) := by decide +kernel
theorem dX7_lane_67 : decode cX7_lane 67 = .ok (.iload_n 1, 1) := by decide +kernel
theorem dX7_lane_68 : decode cX7_lane 68 = .ok (.aaload, 1) := by decide +kernel
theorem dX7_lane_69 : decode cX7_lane 69 = .ok (.iload_n 2, 1) := by decide +kernel
theorem dX7_lane_70 : decode cX7_lane 70 = .ok (.invokevirtual 226, 3) := by decide +kernel
theorem dX7_lane_73 : decode cX7_lane 73 = .ok (.ireturn, 1) := by decide +kernel
theorem dX7_total_0 : decode cX7_total 0 = .ok (.iload_n 1, 1) := by decide +kernel
theorem dX7_total_1 : decode cX7_total 1 = .ok (.tableswitch 191 0 14 #[75, 83, 91, 99, 108, 116, 125, 133, 144, 152, 159, 166, 172, 178, 183], 75) := by decide +kernel
theorem dX7_total_76 : decode cX7_total 76 = .ok (.aload_n 0, 1) := by decide +kernel
theorem dX7_total_77 : decode cX7_total 77 = .ok (.getfield 43, 3) := by decide +kernel
theorem dX7_total_80 : decode cX7_total 80 = .ok (.getfield 163, 3) := by decide +kernel
theorem dX7_total_83 : decode cX7_total 83 = .ok (.ireturn, 1) := by decide +kernel
theorem dX7_total_84 : decode cX7_total 84 = .ok (.aload_n 0, 1) := by decide +kernel
theorem dX7_total_85 : decode cX7_total 85 = .ok (.getfield 43, 3) := by decide +kernel
theorem dX7_total_88 : decode cX7_total 88 = .ok (.getfield 148, 3) := by decide +kernel
theorem dX7_total_91 : decode cX7_total 91 = .ok (.ireturn, 1) := by decide +kernel
theorem dX7_total_92 : decode cX7_total 92 = .ok (.aload_n 0, 1) := by decide +kernel
theorem dX7_total_93 : decode cX7_total 93 = .ok (.getfield 43, 3) := by decide +kernel
theorem dX7_total_96 : decode cX7_total 96 = .ok (.getfield 69, 3) := by decide +kernel
theorem dX7_total_99 : decode cX7_total 99 = .ok (.ireturn, 1) := by decide +kernel
theorem dX7_total_100 : decode cX7_total 100 = .ok (.aload_n 0, 1) := by decide +kernel
theorem dX7_total_101 : decode cX7_total 101 = .ok (.bipush 10, 2) := by decide +kernel
theorem dX7_total_103 : decode cX7_total 103 = .ok (.bipush 15, 2) := by decide +kernel
theorem dX7_total_105 : decode cX7_total 105 = .ok (.invokevirtual 229, 3) := by decide +kernel
theorem dX7_total_108 : decode cX7_total 108 = .ok (.ireturn, 1) := by decide +kernel
theorem dX7_total_109 : decode cX7_total 109 = .ok (.aload_n 0, 1) := by decide +kernel
theorem dX7_total_110 : decode cX7_total 110 = .ok (.iconst 1, 1) := by decide +kernel
theorem dX7_total_111 : decode cX7_total 111 = .ok (.bipush 6, 2) := by decide +kernel
theorem dX7_total_113 : decode cX7_total 113 = .ok (.invokevirtual 229, 3) := by decide +kernel
theorem dX7_total_116 : decode cX7_total 116 = .ok (.ireturn, 1) := by decide +kernel
theorem dX7_total_117 : decode cX7_total 117 = .ok (.aload_n 0, 1) := by decide +kernel
theorem dX7_total_118 : decode cX7_total 118 = .ok (.bipush 9, 2) := by decide +kernel
theorem dX7_total_120 : decode cX7_total 120 = .ok (.bipush 9, 2) := by decide +kernel
theorem dX7_total_122 : decode cX7_total 122 = .ok (.invokevirtual 229, 3) := by decide +kernel
theorem dX7_total_125 : decode cX7_total 125 = .ok (.ireturn, 1) := by decide +kernel
theorem dX7_total_126 : decode cX7_total 126 = .ok (.aload_n 0, 1) := by decide +kernel
theorem dX7_total_127 : decode cX7_total 127 = .ok (.getfield 43, 3) := by decide +kernel
theorem dX7_total_130 : decode cX7_total 130 = .ok (.getfield 90, 3) := by decide +kernel
theorem dX7_total_133 : decode cX7_total 133 = .ok (.ireturn, 1) := by decide +kernel
theorem dX7_total_134 : decode cX7_total 134 = .ok (.aload_n 0, 1) := by decide +kernel
theorem dX7_total_135 : decode cX7_total 135 = .ok (.getfield 43, 3) := by decide +kernel
theorem dX7_total_138 : decode cX7_total 138 = .ok (.getfield 116, 3) := by decide +kernel
theorem dX7_total_141 : decode cX7_total 141 = .ok (.getfield 126, 3) := by decide +kernel
theorem dX7_total_144 : decode cX7_total 144 = .ok (.ireturn, 1) := by decide +kernel
theorem dX7_total_145 : decode cX7_total 145 = .ok (.aload_n 0, 1) := by decide +kernel
theorem dX7_total_146 : decode cX7_total 146 = .ok (.getfield 43, 3) := by decide +kernel
theorem dX7_total_149 : decode cX7_total 149 = .ok (.getfield 160, 3) := by decide +kernel
theorem dX7_total_152 : decode cX7_total 152 = .ok (.ireturn, 1) := by decide +kernel
theorem dX7_total_153 : decode cX7_total 153 = .ok (.aload_n 0, 1) := by decide +kernel
theorem dX7_total_154 : decode cX7_total 154 = .ok (.bipush 7, 2) := by decide +kernel
theorem dX7_total_156 : decode cX7_total 156 = .ok (.invokevirtual 232, 3) := by decide +kernel
theorem dX7_total_159 : decode cX7_total 159 = .ok (.ireturn, 1) := by decide +kernel
theorem dX7_total_160 : decode cX7_total 160 = .ok (.aload_n 0, 1) := by decide +kernel
theorem dX7_total_161 : decode cX7_total 161 = .ok (.bipush 6, 2) := by decide +kernel
theorem dX7_total_163 : decode cX7_total 163 = .ok (.invokevirtual 232, 3) := by decide +kernel
theorem dX7_total_166 : decode cX7_total 166 = .ok (.ireturn, 1) := by decide +kernel
theorem dX7_total_167 : decode cX7_total 167 = .ok (.aload_n 0, 1) := by decide +kernel
theorem dX7_total_168 : decode cX7_total 168 = .ok (.iconst 4, 1) := by decide +kernel
theorem dX7_total_169 : decode cX7_total 169 = .ok (.invokevirtual 232, 3) := by decide +kernel
theorem dX7_total_172 : decode cX7_total 172 = .ok (.ireturn, 1) := by decide +kernel
theorem dX7_total_173 : decode cX7_total 173 = .ok (.aload_n 0, 1) := by decide +kernel
theorem dX7_total_174 : decode cX7_total 174 = .ok (.iconst 5, 1) := by decide +kernel
theorem dX7_total_175 : decode cX7_total 175 = .ok (.invokevirtual 232, 3) := by decide +kernel
theorem dX7_total_178 : decode cX7_total 178 = .ok (.ireturn, 1) := by decide +kernel
theorem dX7_total_179 : decode cX7_total 179 = .ok (.aload_n 0, 1) := by decide +kernel
theorem dX7_total_180 : decode cX7_total 180 = .ok (.getfield 208, 3) := by decide +kernel
theorem dX7_total_183 : decode cX7_total 183 = .ok (.ireturn, 1) := by decide +kernel
theorem dX7_total_184 : decode cX7_total 184 = .ok (.aload_n 0, 1) := by decide +kernel
theorem dX7_total_185 : decode cX7_total 185 = .ok (.getfield 25, 3) := by decide +kernel
theorem dX7_total_188 : decode cX7_total 188 = .ok (.getfield 235, 3) := by decide +kernel
theorem dX7_total_191 : decode cX7_total 191 = .ok (.ireturn, 1) := by decide +kernel
theorem dX7_total_192 : decode cX7_total 192 = .ok (.new 64, 3) := by decide +kernel
theorem dX7_total_195 : decode cX7_total 195 = .ok (.dup, 1) := by decide +kernel
theorem dX7_total_196 : decode cX7_total 196 = .ok (.ldc 238, 2) := by decide +kernel
theorem dX7_total_198 : decode cX7_total 198 = .ok (.invokespecial 68, 3) := by decide +kernel
theorem dX7_total_201 : decode cX7_total 201 = .ok (.athrow, 1) := by decide +kernel
theorem dX7_lost_0 : decode cX7_lost 0 = .ok (.iload_n 1, 1) := by decide +kernel
theorem dX7_lost_1 : decode cX7_lost 1 = .ok (.iconst 1, 1) := by decide +kernel
theorem dX7_lost_2 : decode cX7_lost 2 = .ok (.if_icmp .lt 9, 3) := by decide +kernel
theorem dX7_lost_5 : decode cX7_lost 5 = .ok (.iload_n 1, 1) := by decide +kernel
theorem dX7_lost_6 : decode cX7_lost 6 = .ok (.bipush 6, 2) := by decide +kernel
theorem dX7_lost_8 : decode cX7_lost 8 = .ok (.if_icmp .le 13, 3) := by decide +kernel
theorem dX7_lost_11 : decode cX7_lost 11 = .ok (.new 64, 3) := by decide +kernel
theorem dX7_lost_14 : decode cX7_lost 14 = .ok (.dup, 1) := by decide +kernel
theorem dX7_lost_15 : decode cX7_lost 15 = .ok (.ldc 240, 2) := by decide +kernel
theorem dX7_lost_17 : decode cX7_lost 17 = .ok (.invokespecial 68, 3) := by decide +kernel
theorem dX7_lost_20 : decode cX7_lost 20 = .ok (.athrow, 1) := by decide +kernel
theorem dX7_lost_21 : decode cX7_lost 21 = .ok (.aload_n 0, 1) := by decide +kernel
theorem dX7_lost_22 : decode cX7_lost 22 = .ok (.iload_n 1, 1) := by decide +kernel
theorem dX7_lost_23 : decode cX7_lost 23 = .ok (.iload_n 1, 1) := by decide +kernel
theorem dX7_lost_24 : decode cX7_lost 24 = .ok (.invokevirtual 229, 3) := by decide +kernel
theorem dX7_lost_27 : decode cX7_lost 27 = .ok (.ireturn, 1) := by decide +kernel
theorem dX7_setting_0 : decode cX7_setting 0 = .ok (.iload_n 1, 1) := by decide +kernel
theorem dX7_setting_1 : decode cX7_setting 1 = .ok (.ifCond .lt 9, 3) := by decide +kernel
theorem dX7_setting_4 : decode cX7_setting 4 = .ok (.iload_n 1, 1) := by decide +kernel
theorem dX7_setting_5 : decode cX7_setting 5 = .ok (.bipush 6, 2) := by decide +kernel
theorem dX7_setting_7 : decode cX7_setting 7 = .ok (.if_icmp .lt 13, 3) := by decide +kernel
theorem dX7_setting_10 : decode cX7_setting 10 = .ok (.new 50, 3) := by decide +kernel
theorem dX7_setting_13 : decode cX7_setting 13 = .ok (.dup, 1) := by decide +kernel
theorem dX7_setting_14 : decode cX7_setting 14 = .ok (.ldc 52, 2) := by decide +kernel
theorem dX7_setting_16 : decode cX7_setting 16 = .ok (.invokespecial 54, 3) := by decide +kernel
theorem dX7_setting_19 : decode cX7_setting 19 = .ok (.athrow, 1) := by decide +kernel
theorem dX7_setting_20 : decode cX7_setting 20 = .ok (.aload_n 0, 1) := by decide +kernel
theorem dX7_setting_21 : decode cX7_setting 21 = .ok (.getfield 43, 3) := by decide +kernel
theorem dX7_setting_24 : decode cX7_setting 24 = .ok (.getfield 81, 3) := by decide +kernel
theorem dX7_setting_27 : decode cX7_setting 27 = .ok (.iload_n 1, 1) := by decide +kernel
theorem dX7_setting_28 : decode cX7_setting 28 = .ok (.iaload, 1) := by decide +kernel
theorem dX7_setting_29 : decode cX7_setting 29 = .ok (.ireturn, 1) := by decide +kernel
theorem dX7_routeAt_0 : decode cX7_routeAt 0 = .ok (.iload_n 1, 1) := by decide +kernel
theorem dX7_routeAt_1 : decode cX7_routeAt 1 = .ok (.ifCond .ge 13, 3) := by decide +kernel
theorem dX7_routeAt_4 : decode cX7_routeAt 4 = .ok (.new 64, 3) := by decide +kernel
theorem dX7_routeAt_7 : decode cX7_routeAt 7 = .ok (.dup, 1) := by decide +kernel
theorem dX7_routeAt_8 : decode cX7_routeAt 8 = .ok (.ldc 242, 2) := by decide +kernel
theorem dX7_routeAt_10 : decode cX7_routeAt 10 = .ok (.invokespecial 68, 3) := by decide +kernel
theorem dX7_routeAt_13 : decode cX7_routeAt 13 = .ok (.athrow, 1) := by decide +kernel
theorem dX7_routeAt_14 : decode cX7_routeAt 14 = .ok (.aload_n 0, 1) := by decide +kernel
theorem dX7_routeAt_15 : decode cX7_routeAt 15 = .ok (.getfield 43, 3) := by decide +kernel
theorem dX7_routeAt_18 : decode cX7_routeAt 18 = .ok (.getfield 116, 3) := by decide +kernel
theorem dX7_routeAt_21 : decode cX7_routeAt 21 = .ok (.iload_n 1, 1) := by decide +kernel
theorem dX7_routeAt_22 : decode cX7_routeAt 22 = .ok (.invokevirtual 244, 3) := by decide +kernel
theorem dX7_routeAt_25 : decode cX7_routeAt 25 = .ok (.ireturn, 1) := by decide +kernel
theorem dX7_gapAhead_0 : decode cX7_gapAhead 0 = .ok (.aload_n 0, 1) := by decide +kernel
theorem dX7_gapAhead_1 : decode cX7_gapAhead 1 = .ok (.iload_n 1, 1) := by decide +kernel
theorem dX7_gapAhead_2 : decode cX7_gapAhead 2 = .ok (.invokevirtual 188, 3) := by decide +kernel
theorem dX7_gapAhead_5 : decode cX7_gapAhead 5 = .ok (.ifCond .ne 13, 3) := by decide +kernel
theorem dX7_gapAhead_8 : decode cX7_gapAhead 8 = .ok (.new 50, 3) := by decide +kernel
theorem dX7_gapAhead_11 : decode cX7_gapAhead 11 = .ok (.dup, 1) := by decide +kernel
theorem dX7_gapAhead_12 : decode cX7_gapAhead 12 = .ok (.ldc 191, 2) := by decide +kernel
theorem dX7_gapAhead_14 : decode cX7_gapAhead 14 = .ok (.invokespecial 54, 3) := by decide +kernel
theorem dX7_gapAhead_17 : decode cX7_gapAhead 17 = .ok (.athrow, 1) := by decide +kernel
theorem dX7_gapAhead_18 : decode cX7_gapAhead 18 = .ok (.aload_n 0, 1) := by decide +kernel
theorem dX7_gapAhead_19 : decode cX7_gapAhead 19 = .ok (.getfield 43, 3) := by decide +kernel
theorem dX7_gapAhead_22 : decode cX7_gapAhead 22 = .ok (.iload_n 1, 1) := by decide +kernel
theorem dX7_gapAhead_23 : decode cX7_gapAhead 23 = .ok (.invokevirtual 193, 3) := by decide +kernel
theorem dX7_gapAhead_26 : decode cX7_gapAhead 26 = .ok (.istore_n 2, 1) := by decide +kernel
theorem dX7_gapAhead_27 : decode cX7_gapAhead 27 = .ok (.iload_n 2, 1) := by decide +kernel
theorem dX7_gapAhead_28 : decode cX7_gapAhead 28 = .ok (.iconst (-1), 1) := by decide +kernel
theorem dX7_gapAhead_29 : decode cX7_gapAhead 29 = .ok (.if_icmp .ne 13, 3) := by decide +kernel
theorem dX7_gapAhead_32 : decode cX7_gapAhead 32 = .ok (.new 73, 3) := by decide +kernel
theorem dX7_gapAhead_35 : decode cX7_gapAhead 35 = .ok (.dup, 1) := by decide +kernel
theorem dX7_gapAhead_36 : decode cX7_gapAhead 36 = .ok (.ldc 196, 2) := by decide +kernel
theorem dX7_gapAhead_38 : decode cX7_gapAhead 38 = .ok (.invokespecial 77, 3) := by decide +kernel
theorem dX7_gapAhead_41 : decode cX7_gapAhead 41 = .ok (.athrow, 1) := by decide +kernel
theorem dX7_gapAhead_42 : decode cX7_gapAhead 42 = .ok (.iload_n 2, 1) := by decide +kernel
theorem dX7_gapAhead_43 : decode cX7_gapAhead 43 = .ok (.ifCond .ne 7, 3) := by decide +kernel
theorem dX7_gapAhead_46 : decode cX7_gapAhead 46 = .ok (.iconst (-1), 1) := by decide +kernel
theorem dX7_gapAhead_47 : decode cX7_gapAhead 47 = .ok (.goto 14, 3) := by decide +kernel
theorem dX7_gapAhead_50 : decode cX7_gapAhead 50 = .ok (.aload_n 0, 1) := by decide +kernel
theorem dX7_gapAhead_51 : decode cX7_gapAhead 51 = .ok (.getfield 43, 3) := by decide +kernel
theorem dX7_gapAhead_54 : decode cX7_gapAhead 54 = .ok (.iload_n 2, 1) := by decide +kernel
theorem dX7_gapAhead_55 : decode cX7_gapAhead 55 = .ok (.iconst 1, 1) := by decide +kernel
theorem dX7_gapAhead_56 : decode cX7_gapAhead 56 = .ok (.isub, 1) := by decide +kernel
theorem dX7_gapAhead_57 : decode cX7_gapAhead 57 = .ok (.iload_n 2, 1) := by decide +kernel
theorem dX7_gapAhead_58 : decode cX7_gapAhead 58 = .ok (.invokevirtual 247, 3) := by decide +kernel
theorem dX7_gapAhead_61 : decode cX7_gapAhead 61 = .ok (.ireturn, 1) := by decide +kernel
theorem dX7_ranked_0 : decode cX7_ranked 0 = .ok (.iload_n 1, 1) := by decide +kernel
theorem dX7_ranked_1 : decode cX7_ranked 1 = .ok (.ifCond .ge 13, 3) := by decide +kernel
theorem dX7_ranked_4 : decode cX7_ranked 4 = .ok (.new 64, 3) := by decide +kernel
theorem dX7_ranked_7 : decode cX7_ranked 7 = .ok (.dup, 1) := by decide +kernel
theorem dX7_ranked_8 : decode cX7_ranked 8 = .ok (.ldc 250, 2) := by decide +kernel
theorem dX7_ranked_10 : decode cX7_ranked 10 = .ok (.invokespecial 68, 3) := by decide +kernel
theorem dX7_ranked_13 : decode cX7_ranked 13 = .ok (.athrow, 1) := by decide +kernel
theorem dX7_ranked_14 : decode cX7_ranked 14 = .ok (.aload_n 0, 1) := by decide +kernel
theorem dX7_ranked_15 : decode cX7_ranked 15 = .ok (.getfield 43, 3) := by decide +kernel
theorem dX7_ranked_18 : decode cX7_ranked 18 = .ok (.invokevirtual 179, 3) := by decide +kernel
theorem dX7_ranked_21 : decode cX7_ranked 21 = .ok (.iconst 0, 1) := by decide +kernel
theorem dX7_ranked_22 : decode cX7_ranked 22 = .ok (.istore_n 2, 1) := by decide +kernel
theorem dX7_ranked_23 : decode cX7_ranked 23 = .ok (.iload_n 2, 1) := by decide +kernel
theorem dX7_ranked_24 : decode cX7_ranked 24 = .ok (.aload_n 0, 1) := by decide +kernel
theorem dX7_ranked_25 : decode cX7_ranked 25 = .ok (.getfield 43, 3) := by decide +kernel
theorem dX7_ranked_28 : decode cX7_ranked 28 = .ok (.getfield 69, 3) := by decide +kernel
theorem dX7_ranked_31 : decode cX7_ranked 31 = .ok (.if_icmp .ge 34, 3) := by decide +kernel
theorem dX7_ranked_34 : decode cX7_ranked 34 = .ok (.aload_n 0, 1) := by decide +kernel
theorem dX7_ranked_35 : decode cX7_ranked 35 = .ok (.getfield 43, 3) := by decide +kernel
theorem dX7_ranked_38 : decode cX7_ranked 38 = .ok (.iload_n 2, 1) := by decide +kernel
theorem dX7_ranked_39 : decode cX7_ranked 39 = .ok (.invokevirtual 252, 3) := by decide +kernel
theorem dX7_ranked_42 : decode cX7_ranked 42 = .ok (.iload_n 1, 1) := by decide +kernel
theorem dX7_ranked_43 : decode cX7_ranked 43 = .ok (.if_icmp .ne 16, 3) := by decide +kernel
theorem dX7_ranked_46 : decode cX7_ranked 46 = .ok (.aload_n 0, 1) := by decide +kernel
theorem dX7_ranked_47 : decode cX7_ranked 47 = .ok (.getfield 43, 3) := by decide +kernel
theorem dX7_ranked_50 : decode cX7_ranked 50 = .ok (.getfield 198, 3) := by decide +kernel
theorem dX7_ranked_53 : decode cX7_ranked 53 = .ok (.iload_n 2, 1) := by decide +kernel
theorem dX7_ranked_54 : decode cX7_ranked 54 = .ok (.aaload, 1) := by decide +kernel
theorem dX7_ranked_55 : decode cX7_ranked 55 = .ok (.getfield 171, 3) := by decide +kernel
theorem dX7_ranked_58 : decode cX7_ranked 58 = .ok (.ireturn, 1) := by decide +kernel
theorem dX7_ranked_59 : decode cX7_ranked 59 = .ok (.iinc 2 1, 3) := by decide +kernel
theorem dX7_ranked_62 : decode cX7_ranked 62 = .ok (.goto (-39), 3) := by decide +kernel
theorem dX7_ranked_65 : decode cX7_ranked 65 = .ok (.iconst (-1), 1) := by decide +kernel
theorem dX7_ranked_66 : decode cX7_ranked 66 = .ok (.ireturn, 1) := by decide +kernel
theorem dX7_share_0 : decode cX7_share 0 = .ok (.aload_n 0, 1) := by decide +kernel
theorem dX7_share_1 : decode cX7_share 1 = .ok (.getfield 43, 3) := by decide +kernel
theorem dX7_share_4 : decode cX7_share 4 = .ok (.getfield 148, 3) := by decide +kernel
theorem dX7_share_7 : decode cX7_share 7 = .ok (.aload_n 0, 1) := by decide +kernel
theorem dX7_share_8 : decode cX7_share 8 = .ok (.getfield 43, 3) := by decide +kernel
theorem dX7_share_11 : decode cX7_share 11 = .ok (.getfield 69, 3) := by decide +kernel
theorem dX7_share_14 : decode cX7_share 14 = .ok (.isub, 1) := by decide +kernel
theorem dX7_share_15 : decode cX7_share 15 = .ok (.istore_n 1, 1) := by decide +kernel
theorem dX7_share_16 : decode cX7_share 16 = .ok (.iload_n 1, 1) := by decide +kernel
theorem dX7_share_17 : decode cX7_share 17 = .ok (.ifCond .gt 5, 3) := by decide +kernel
theorem dX7_share_20 : decode cX7_share 20 = .ok (.dconst 1, 1) := by decide +kernel
theorem dX7_share_21 : decode cX7_share 21 = .ok (.dreturn, 1) := by decide +kernel
theorem dX7_share_22 : decode cX7_share 22 = .ok (.aload_n 0, 1) := by decide +kernel
theorem dX7_share_23 : decode cX7_share 23 = .ok (.bipush 10, 2) := by decide +kernel
theorem dX7_share_25 : decode cX7_share 25 = .ok (.bipush 15, 2) := by decide +kernel
theorem dX7_share_27 : decode cX7_share 27 = .ok (.invokevirtual 229, 3) := by decide +kernel
theorem dX7_share_30 : decode cX7_share 30 = .ok (.i2d, 1) := by decide +kernel
theorem dX7_share_31 : decode cX7_share 31 = .ok (.iload_n 1, 1) := by decide +kernel
theorem dX7_share_32 : decode cX7_share 32 = .ok (.i2d, 1) := by decide +kernel
theorem dX7_share_33 : decode cX7_share 33 = .ok (.ddiv, 1) := by decide +kernel
theorem dX7_share_34 : decode cX7_share 34 = .ok (.dreturn, 1) := by decide +kernel
theorem dX7_fateOf_0 : decode cX7_fateOf 0 = .ok (.aload_n 0, 1) := by decide +kernel
theorem dX7_fateOf_1 : decode cX7_fateOf 1 = .ok (.iload_n 1, 1) := by decide +kernel
theorem dX7_fateOf_2 : decode cX7_fateOf 2 = .ok (.invokevirtual 188, 3) := by decide +kernel
theorem dX7_fateOf_5 : decode cX7_fateOf 5 = .ok (.ifCond .ne 13, 3) := by decide +kernel
theorem dX7_fateOf_8 : decode cX7_fateOf 8 = .ok (.new 50, 3) := by decide +kernel
theorem dX7_fateOf_11 : decode cX7_fateOf 11 = .ok (.dup, 1) := by decide +kernel
theorem dX7_fateOf_12 : decode cX7_fateOf 12 = .ok (.ldc 191, 2) := by decide +kernel
theorem dX7_fateOf_14 : decode cX7_fateOf 14 = .ok (.invokespecial 54, 3) := by decide +kernel
theorem dX7_fateOf_17 : decode cX7_fateOf 17 = .ok (.athrow, 1) := by decide +kernel
theorem dX7_fateOf_18 : decode cX7_fateOf 18 = .ok (.aload_n 0, 1) := by decide +kernel
theorem dX7_fateOf_19 : decode cX7_fateOf 19 = .ok (.invokevirtual 255, 3) := by decide +kernel
theorem dX7_fateOf_22 : decode cX7_fateOf 22 = .ok (.aload_n 0, 1) := by decide +kernel
theorem dX7_fateOf_23 : decode cX7_fateOf 23 = .ok (.getfield 47, 3) := by decide +kernel
theorem dX7_fateOf_26 : decode cX7_fateOf 26 = .ok (.iload_n 1, 1) := by decide +kernel
theorem dX7_fateOf_27 : decode cX7_fateOf 27 = .ok (.invokevirtual 193, 3) := by decide +kernel
theorem dX7_fateOf_30 : decode cX7_fateOf 30 = .ok (.istore_n 2, 1) := by decide +kernel
theorem dX7_fateOf_31 : decode cX7_fateOf 31 = .ok (.iload_n 2, 1) := by decide +kernel
theorem dX7_fateOf_32 : decode cX7_fateOf 32 = .ok (.iconst (-1), 1) := by decide +kernel
theorem dX7_fateOf_33 : decode cX7_fateOf 33 = .ok (.if_icmp .ne 10, 3) := by decide +kernel
theorem dX7_fateOf_36 : decode cX7_fateOf 36 = .ok (.aload_n 0, 1) := by decide +kernel
theorem dX7_fateOf_37 : decode cX7_fateOf 37 = .ok (.iload_n 1, 1) := by decide +kernel
theorem dX7_fateOf_38 : decode cX7_fateOf 38 = .ok (.iconst 1, 1) := by decide +kernel
theorem dX7_fateOf_39 : decode cX7_fateOf 39 = .ok (.invokevirtual 219, 3) := by decide +kernel
theorem dX7_fateOf_42 : decode cX7_fateOf 42 = .ok (.ireturn, 1) := by decide +kernel
theorem dX7_fateOf_43 : decode cX7_fateOf 43 = .ok (.aload_n 0, 1) := by decide +kernel
theorem dX7_fateOf_44 : decode cX7_fateOf 44 = .ok (.getfield 47, 3) := by decide +kernel
theorem dX7_fateOf_47 : decode cX7_fateOf 47 = .ok (.getfield 198, 3) := by decide +kernel
theorem dX7_fateOf_50 : decode cX7_fateOf 50 = .ok (.iload_n 2, 1) := by decide +kernel
theorem dX7_fateOf_51 : decode cX7_fateOf 51 = .ok (.aaload, 1) := by decide +kernel
theorem dX7_fateOf_52 : decode cX7_fateOf 52 = .ok (.astore_n 3, 1) := by decide +kernel
theorem dX7_fateOf_53 : decode cX7_fateOf 53 = .ok (.iconst 0, 1) := by decide +kernel
theorem dX7_fateOf_54 : decode cX7_fateOf 54 = .ok (.istore 4, 2) := by decide +kernel
theorem dX7_fateOf_56 : decode cX7_fateOf 56 = .ok (.iload 4, 2) := by decide +kernel
theorem dX7_fateOf_58 : decode cX7_fateOf 58 = .ok (.ldc_w 258, 3) := by decide +kernel
theorem dX7_fateOf_61 : decode cX7_fateOf 61 = .ok (.if_icmp .ge 27, 3) := by decide +kernel
theorem dX7_fateOf_64 : decode cX7_fateOf 64 = .ok (.aload_n 3, 1) := by decide +kernel
theorem dX7_fateOf_65 : decode cX7_fateOf 65 = .ok (.getfield 259, 3) := by decide +kernel
theorem dX7_fateOf_68 : decode cX7_fateOf 68 = .ok (.ifCond .ne 20, 3) := by decide +kernel
theorem dX7_fateOf_71 : decode cX7_fateOf 71 = .ok (.aload_n 0, 1) := by decide +kernel
theorem dX7_fateOf_72 : decode cX7_fateOf 72 = .ok (.getfield 47, 3) := by decide +kernel
theorem dX7_fateOf_75 : decode cX7_fateOf 75 = .ok (.ldc_w 258, 3) := by decide +kernel
theorem dX7_fateOf_78 : decode cX7_fateOf 78 = .ok (.invokevirtual 182, 3) := by decide +kernel
theorem dX7_fateOf_81 : decode cX7_fateOf 81 = .ok (.pop, 1) := by decide +kernel
theorem dX7_fateOf_82 : decode cX7_fateOf 82 = .ok (.iinc 4 1, 3) := by decide +kernel
theorem dX7_fateOf_85 : decode cX7_fateOf 85 = .ok (.goto (-29), 3) := by decide +kernel
theorem dX7_fateOf_88 : decode cX7_fateOf 88 = .ok (.aload_n 3, 1) := by decide +kernel
theorem dX7_fateOf_89 : decode cX7_fateOf 89 = .ok (.getfield 259, 3) := by decide +kernel
theorem dX7_fateOf_92 : decode cX7_fateOf 92 = .ok (.ireturn, 1) := by decide +kernel
theorem dX7_entryIn_0 : decode cX7_entryIn 0 = .ok (.aload_n 0, 1) := by decide +kernel
theorem dX7_entryIn_1 : decode cX7_entryIn 1 = .ok (.invokevirtual 255, 3) := by decide +kernel
theorem dX7_entryIn_4 : decode cX7_entryIn 4 = .ok (.iconst 0, 1) := by decide +kernel
theorem dX7_entryIn_5 : decode cX7_entryIn 5 = .ok (.istore_n 1, 1) := by decide +kernel
theorem dX7_entryIn_6 : decode cX7_entryIn 6 = .ok (.iconst 0, 1) := by decide +kernel
theorem dX7_entryIn_7 : decode cX7_entryIn 7 = .ok (.istore_n 2, 1) := by decide +kernel
theorem dX7_entryIn_8 : decode cX7_entryIn 8 = .ok (.iload_n 2, 1) := by decide +kernel
theorem dX7_entryIn_9 : decode cX7_entryIn 9 = .ok (.ldc_w 258, 3) := by decide +kernel
theorem dX7_entryIn_12 : decode cX7_entryIn 12 = .ok (.if_icmp .ge 45, 3) := by decide +kernel
theorem dX7_entryIn_15 : decode cX7_entryIn 15 = .ok (.aload_n 0, 1) := by decide +kernel
theorem dX7_entryIn_16 : decode cX7_entryIn 16 = .ok (.getfield 47, 3) := by decide +kernel
theorem dX7_entryIn_19 : decode cX7_entryIn 19 = .ok (.getfield 81, 3) := by decide +kernel
theorem dX7_entryIn_22 : decode cX7_entryIn 22 = .ok (.iconst 5, 1) := by decide +kernel
theorem dX7_entryIn_23 : decode cX7_entryIn 23 = .ok (.iaload, 1) := by decide +kernel
theorem dX7_entryIn_24 : decode cX7_entryIn 24 = .ok (.aload_n 0, 1) := by decide +kernel
theorem dX7_entryIn_25 : decode cX7_entryIn 25 = .ok (.getfield 47, 3) := by decide +kernel
theorem dX7_entryIn_28 : decode cX7_entryIn 28 = .ok (.invokevirtual 142, 3) := by decide +kernel
theorem dX7_entryIn_31 : decode cX7_entryIn 31 = .ok (.isub, 1) := by decide +kernel
theorem dX7_entryIn_32 : decode cX7_entryIn 32 = .ok (.istore_n 3, 1) := by decide +kernel
theorem dX7_entryIn_33 : decode cX7_entryIn 33 = .ok (.iload_n 3, 1) := by decide +kernel
theorem dX7_entryIn_34 : decode cX7_entryIn 34 = .ok (.ifCond .gt 6, 3) := by decide +kernel
theorem dX7_entryIn_37 : decode cX7_entryIn 37 = .ok (.goto 20, 3) := by decide +kernel
theorem dX7_entryIn_40 : decode cX7_entryIn 40 = .ok (.iload_n 1, 1) := by decide +kernel
theorem dX7_entryIn_41 : decode cX7_entryIn 41 = .ok (.aload_n 0, 1) := by decide +kernel
theorem dX7_entryIn_42 : decode cX7_entryIn 42 = .ok (.getfield 47, 3) := by decide +kernel
theorem dX7_entryIn_45 : decode cX7_entryIn 45 = .ok (.iload_n 3, 1) := by decide +kernel
theorem dX7_entryIn_46 : decode cX7_entryIn 46 = .ok (.invokevirtual 182, 3) := by decide +kernel
theorem dX7_entryIn_49 : decode cX7_entryIn 49 = .ok (.iadd, 1) := by decide +kernel
theorem dX7_entryIn_50 : decode cX7_entryIn 50 = .ok (.istore_n 1, 1) := by decide +kernel
theorem dX7_entryIn_51 : decode cX7_entryIn 51 = .ok (.iinc 2 1, 3) := by decide +kernel
theorem dX7_entryIn_54 : decode cX7_entryIn 54 = .ok (.goto (-46), 3) := by decide +kernel
theorem dX7_entryIn_57 : decode cX7_entryIn 57 = .ok (.iload_n 1, 1) := by decide +kernel
theorem dX7_entryIn_58 : decode cX7_entryIn 58 = .ok (.ireturn, 1) := by decide +kernel
theorem dX7_nextLeaving_0 : decode cX7_nextLeaving 0 = .ok (.aload_n 0, 1) := by decide +kernel
theorem dX7_nextLeaving_1 : decode cX7_nextLeaving 1 = .ok (.getfield 43, 3) := by decide +kernel
theorem dX7_nextLeaving_4 : decode cX7_nextLeaving 4 = .ok (.getfield 69, 3) := by decide +kernel
theorem dX7_nextLeaving_7 : decode cX7_nextLeaving 7 = .ok (.istore_n 1, 1) := by decide +kernel
theorem dX7_nextLeaving_8 : decode cX7_nextLeaving 8 = .ok (.iload_n 1, 1) := by decide +kernel
theorem dX7_nextLeaving_9 : decode cX7_nextLeaving 9 = .ok (.ifCond .ne 5, 3) := by decide +kernel
theorem dX7_nextLeaving_12 : decode cX7_nextLeaving 12 = .ok (.iconst (-1), 1) := by decide +kernel
theorem dX7_nextLeaving_13 : decode cX7_nextLeaving 13 = .ok (.ireturn, 1) := by decide +kernel
theorem dX7_nextLeaving_14 : decode cX7_nextLeaving 14 = .ok (.aload_n 0, 1) := by decide +kernel
theorem dX7_nextLeaving_15 : decode cX7_nextLeaving 15 = .ok (.invokevirtual 255, 3) := by decide +kernel
theorem dX7_nextLeaving_18 : decode cX7_nextLeaving 18 = .ok (.iconst 0, 1) := by decide +kernel
theorem dX7_nextLeaving_19 : decode cX7_nextLeaving 19 = .ok (.istore_n 2, 1) := by decide +kernel
theorem dX7_nextLeaving_20 : decode cX7_nextLeaving 20 = .ok (.iconst 0, 1) := by decide +kernel
theorem dX7_nextLeaving_21 : decode cX7_nextLeaving 21 = .ok (.istore_n 3, 1) := by decide +kernel
theorem dX7_nextLeaving_22 : decode cX7_nextLeaving 22 = .ok (.iload_n 3, 1) := by decide +kernel
theorem dX7_nextLeaving_23 : decode cX7_nextLeaving 23 = .ok (.ldc_w 258, 3) := by decide +kernel
theorem dX7_nextLeaving_26 : decode cX7_nextLeaving 26 = .ok (.if_icmp .ge 33, 3) := by decide +kernel
theorem dX7_nextLeaving_29 : decode cX7_nextLeaving 29 = .ok (.aload_n 0, 1) := by decide +kernel
theorem dX7_nextLeaving_30 : decode cX7_nextLeaving 30 = .ok (.getfield 47, 3) := by decide +kernel
theorem dX7_nextLeaving_33 : decode cX7_nextLeaving 33 = .ok (.getfield 69, 3) := by decide +kernel
theorem dX7_nextLeaving_36 : decode cX7_nextLeaving 36 = .ok (.iload_n 1, 1) := by decide +kernel
theorem dX7_nextLeaving_37 : decode cX7_nextLeaving 37 = .ok (.if_icmp .ne 22, 3) := by decide +kernel
theorem dX7_nextLeaving_40 : decode cX7_nextLeaving 40 = .ok (.iload_n 2, 1) := by decide +kernel
theorem dX7_nextLeaving_41 : decode cX7_nextLeaving 41 = .ok (.aload_n 0, 1) := by decide +kernel
theorem dX7_nextLeaving_42 : decode cX7_nextLeaving 42 = .ok (.getfield 47, 3) := by decide +kernel
theorem dX7_nextLeaving_45 : decode cX7_nextLeaving 45 = .ok (.ldc_w 258, 3) := by decide +kernel
theorem dX7_nextLeaving_48 : decode cX7_nextLeaving 48 = .ok (.invokevirtual 182, 3) := by decide +kernel
theorem dX7_nextLeaving_51 : decode cX7_nextLeaving 51 = .ok (.iadd, 1) := by decide +kernel
theorem dX7_nextLeaving_52 : decode cX7_nextLeaving 52 = .ok (.istore_n 2, 1) := by decide +kernel
theorem dX7_nextLeaving_53 : decode cX7_nextLeaving 53 = .ok (.iinc 3 1, 3) := by decide +kernel
theorem dX7_nextLeaving_56 : decode cX7_nextLeaving 56 = .ok (.goto (-34), 3) := by decide +kernel
theorem dX7_nextLeaving_59 : decode cX7_nextLeaving 59 = .ok (.iload_n 2, 1) := by decide +kernel
theorem dX7_nextLeaving_60 : decode cX7_nextLeaving 60 = .ok (.ireturn, 1) := by decide +kernel
theorem dX7_laneFor_0 : decode cX7_laneFor 0 = .ok (.iload_n 1, 1) := by decide +kernel
theorem dX7_laneFor_1 : decode cX7_laneFor 1 = .ok (.ifCond .lt 10, 3) := by decide +kernel
theorem dX7_laneFor_4 : decode cX7_laneFor 4 = .ok (.iload_n 1, 1) := by decide +kernel
theorem dX7_laneFor_5 : decode cX7_laneFor 5 = .ok (.sipush 999, 3) := by decide +kernel
theorem dX7_laneFor_8 : decode cX7_laneFor 8 = .ok (.if_icmp .le 13, 3) := by decide +kernel
theorem dX7_laneFor_11 : decode cX7_laneFor 11 = .ok (.new 64, 3) := by decide +kernel
theorem dX7_laneFor_14 : decode cX7_laneFor 14 = .ok (.dup, 1) := by decide +kernel
theorem dX7_laneFor_15 : decode cX7_laneFor 15 = .ok (.ldc 114, 2) := by decide +kernel
theorem dX7_laneFor_17 : decode cX7_laneFor 17 = .ok (.invokespecial 68, 3) := by decide +kernel
theorem dX7_laneFor_20 : decode cX7_laneFor 20 = .ok (.athrow, 1) := by decide +kernel
theorem dX7_laneFor_21 : decode cX7_laneFor 21 = .ok (.iload_n 2, 1) := by decide +kernel
theorem dX7_laneFor_22 : decode cX7_laneFor 22 = .ok (.bipush 10, 2) := by decide +kernel
theorem dX7_laneFor_24 : decode cX7_laneFor 24 = .ok (.if_icmp .lt 10, 3) := by decide +kernel
theorem dX7_laneFor_27 : decode cX7_laneFor 27 = .ok (.iload_n 2, 1) := by decide +kernel
theorem dX7_laneFor_28 : decode cX7_laneFor 28 = .ok (.sipush 400, 3) := by decide +kernel
theorem dX7_laneFor_31 : decode cX7_laneFor 31 = .ok (.if_icmp .le 13, 3) := by decide +kernel
theorem dX7_laneFor_34 : decode cX7_laneFor 34 = .ok (.new 64, 3) := by decide +kernel
theorem dX7_laneFor_37 : decode cX7_laneFor 37 = .ok (.dup, 1) := by decide +kernel
theorem dX7_laneFor_38 : decode cX7_laneFor 38 = .ok (.ldc 140, 2) := by decide +kernel
theorem dX7_laneFor_40 : decode cX7_laneFor 40 = .ok (.invokespecial 68, 3) := by decide +kernel
theorem dX7_laneFor_43 : decode cX7_laneFor 43 = .ok (.athrow, 1) := by decide +kernel
theorem dX7_laneFor_44 : decode cX7_laneFor 44 = .ok (.aload_n 0, 1) := by decide +kernel
theorem dX7_laneFor_45 : decode cX7_laneFor 45 = .ok (.getfield 43, 3) := by decide +kernel
theorem dX7_laneFor_48 : decode cX7_laneFor 48 = .ok (.iload_n 1, 1) := by decide +kernel
theorem dX7_laneFor_49 : decode cX7_laneFor 49 = .ok (.iload_n 2, 1) := by decide +kernel
theorem dX7_laneFor_50 : decode cX7_laneFor 50 = .ok (.invokevirtual 262, 3) := by decide +kernel
theorem dX7_laneFor_53 : decode cX7_laneFor 53 = .ok (.ireturn, 1) := by decide +kernel
theorem dX7_errorPosition_0 : decode cX7_errorPosition 0 = .ok (.aload_n 0, 1) := by decide +kernel
theorem dX7_errorPosition_1 : decode cX7_errorPosition 1 = .ok (.getfield 25, 3) := by decide +kernel
theorem dX7_errorPosition_4 : decode cX7_errorPosition 4 = .ok (.aload_n 0, 1) := by decide +kernel
theorem dX7_errorPosition_5 : decode cX7_errorPosition 5 = .ok (.getfield 32, 3) := by decide +kernel
theorem dX7_errorPosition_8 : decode cX7_errorPosition 8 = .ok (.invokevirtual 272, 3) := by decide +kernel
theorem dX7_errorPosition_11 : decode cX7_errorPosition 11 = .ok (.ireturn, 1) := by decide +kernel
theorem dX7_save_0 : decode cX7_save 0 = .ok (.aload_n 0, 1) := by decide +kernel
theorem dX7_save_1 : decode cX7_save 1 = .ok (.getfield 208, 3) := by decide +kernel
theorem dX7_save_4 : decode cX7_save 4 = .ok (.bipush 6, 2) := by decide +kernel
theorem dX7_save_6 : decode cX7_save 6 = .ok (.if_icmp .lt 7, 3) := by decide +kernel
theorem dX7_save_9 : decode cX7_save 9 = .ok (.aload_n 0, 1) := by decide +kernel
theorem dX7_save_10 : decode cX7_save 10 = .ok (.invokevirtual 284, 3) := by decide +kernel
theorem dX7_save_13 : decode cX7_save 13 = .ok (.aload_n 0, 1) := by decide +kernel
theorem dX7_save_14 : decode cX7_save 14 = .ok (.getfield 11, 3) := by decide +kernel
theorem dX7_save_17 : decode cX7_save 17 = .ok (.aload_n 0, 1) := by decide +kernel
theorem dX7_save_18 : decode cX7_save 18 = .ok (.getfield 208, 3) := by decide +kernel
theorem dX7_save_21 : decode cX7_save 21 = .ok (.aaload, 1) := by decide +kernel
theorem dX7_save_22 : decode cX7_save 22 = .ok (.aload_n 0, 1) := by decide +kernel
theorem dX7_save_23 : decode cX7_save 23 = .ok (.getfield 43, 3) := by decide +kernel
theorem dX7_save_26 : decode cX7_save 26 = .ok (.invokevirtual 213, 3) := by decide +kernel
theorem dX7_save_29 : decode cX7_save 29 = .ok (.aload_n 0, 1) := by decide +kernel
theorem dX7_save_30 : decode cX7_save 30 = .ok (.dup, 1) := by decide +kernel
theorem dX7_save_31 : decode cX7_save 31 = .ok (.getfield 208, 3) := by decide +kernel
theorem dX7_save_34 : decode cX7_save 34 = .ok (.iconst 1, 1) := by decide +kernel
theorem dX7_save_35 : decode cX7_save 35 = .ok (.iadd, 1) := by decide +kernel
theorem dX7_save_36 : decode cX7_save 36 = .ok (.putfield 208, 3) := by decide +kernel
theorem dX7_save_39 : decode cX7_save 39 = .ok (.return_, 1) := by decide +kernel
theorem dX7_dropOldestSaved_0 : decode cX7_dropOldestSaved 0 = .ok (.aload_n 0, 1) := by decide +kernel
theorem dX7_dropOldestSaved_1 : decode cX7_dropOldestSaved 1 = .ok (.getfield 11, 3) := by decide +kernel
theorem dX7_dropOldestSaved_4 : decode cX7_dropOldestSaved 4 = .ok (.iconst 0, 1) := by decide +kernel
theorem dX7_dropOldestSaved_5 : decode cX7_dropOldestSaved 5 = .ok (.aaload, 1) := by decide +kernel
theorem dX7_dropOldestSaved_6 : decode cX7_dropOldestSaved 6 = .ok (.astore_n 1, 1) := by decide +kernel
theorem dX7_dropOldestSaved_7 : decode cX7_dropOldestSaved 7 = .ok (.iconst 1, 1) := by decide +kernel
theorem dX7_dropOldestSaved_8 : decode cX7_dropOldestSaved 8 = .ok (.istore_n 2, 1) := by decide +kernel
theorem dX7_dropOldestSaved_9 : decode cX7_dropOldestSaved 9 = .ok (.iload_n 2, 1) := by decide +kernel
theorem dX7_dropOldestSaved_10 : decode cX7_dropOldestSaved 10 = .ok (.bipush 6, 2) := by decide +kernel
theorem dX7_dropOldestSaved_12 : decode cX7_dropOldestSaved 12 = .ok (.if_icmp .ge 23, 3) := by decide +kernel
theorem dX7_dropOldestSaved_15 : decode cX7_dropOldestSaved 15 = .ok (.aload_n 0, 1) := by decide +kernel
theorem dX7_dropOldestSaved_16 : decode cX7_dropOldestSaved 16 = .ok (.getfield 11, 3) := by decide +kernel
theorem dX7_dropOldestSaved_19 : decode cX7_dropOldestSaved 19 = .ok (.iload_n 2, 1) := by decide +kernel
theorem dX7_dropOldestSaved_20 : decode cX7_dropOldestSaved 20 = .ok (.iconst 1, 1) := by decide +kernel
theorem dX7_dropOldestSaved_21 : decode cX7_dropOldestSaved 21 = .ok (.isub, 1) := by decide +kernel
theorem dX7_dropOldestSaved_22 : decode cX7_dropOldestSaved 22 = .ok (.aload_n 0, 1) := by decide +kernel
theorem dX7_dropOldestSaved_23 : decode cX7_dropOldestSaved 23 = .ok (.getfield 11, 3) := by decide +kernel
theorem dX7_dropOldestSaved_26 : decode cX7_dropOldestSaved 26 = .ok (.iload_n 2, 1) := by decide +kernel
theorem dX7_dropOldestSaved_27 : decode cX7_dropOldestSaved 27 = .ok (.aaload, 1) := by decide +kernel
theorem dX7_dropOldestSaved_28 : decode cX7_dropOldestSaved 28 = .ok (.aastore, 1) := by decide +kernel
theorem dX7_dropOldestSaved_29 : decode cX7_dropOldestSaved 29 = .ok (.iinc 2 1, 3) := by decide +kernel
theorem dX7_dropOldestSaved_32 : decode cX7_dropOldestSaved 32 = .ok (.goto (-23), 3) := by decide +kernel
theorem dX7_dropOldestSaved_35 : decode cX7_dropOldestSaved 35 = .ok (.aload_n 0, 1) := by decide +kernel
theorem dX7_dropOldestSaved_36 : decode cX7_dropOldestSaved 36 = .ok (.getfield 11, 3) := by decide +kernel
theorem dX7_dropOldestSaved_39 : decode cX7_dropOldestSaved 39 = .ok (.iconst 5, 1) := by decide +kernel
theorem dX7_dropOldestSaved_40 : decode cX7_dropOldestSaved 40 = .ok (.aload_n 1, 1) := by decide +kernel
theorem dX7_dropOldestSaved_41 : decode cX7_dropOldestSaved 41 = .ok (.aastore, 1) := by decide +kernel
theorem dX7_dropOldestSaved_42 : decode cX7_dropOldestSaved 42 = .ok (.aload_n 0, 1) := by decide +kernel
theorem dX7_dropOldestSaved_43 : decode cX7_dropOldestSaved 43 = .ok (.iconst 5, 1) := by decide +kernel
theorem dX7_dropOldestSaved_44 : decode cX7_dropOldestSaved 44 = .ok (.putfield 208, 3) := by decide +kernel
theorem dX7_dropOldestSaved_47 : decode cX7_dropOldestSaved 47 = .ok (.return_, 1) := by decide +kernel
theorem dX7_hasEntered_0 : decode cX7_hasEntered 0 = .ok (.iload_n 1, 1) := by decide +kernel
theorem dX7_hasEntered_1 : decode cX7_hasEntered 1 = .ok (.ifCond .lt 18, 3) := by decide +kernel
theorem dX7_hasEntered_4 : decode cX7_hasEntered 4 = .ok (.iload_n 1, 1) := by decide +kernel
theorem dX7_hasEntered_5 : decode cX7_hasEntered 5 = .ok (.aload_n 0, 1) := by decide +kernel
theorem dX7_hasEntered_6 : decode cX7_hasEntered 6 = .ok (.getfield 43, 3) := by decide +kernel
theorem dX7_hasEntered_9 : decode cX7_hasEntered 9 = .ok (.getfield 148, 3) := by decide +kernel
theorem dX7_hasEntered_12 : decode cX7_hasEntered 12 = .ok (.if_icmp .ge 7, 3) := by decide +kernel
theorem dX7_hasEntered_15 : decode cX7_hasEntered 15 = .ok (.iconst 1, 1) := by decide +kernel
theorem dX7_hasEntered_16 : decode cX7_hasEntered 16 = .ok (.goto 4, 3) := by decide +kernel
theorem dX7_hasEntered_19 : decode cX7_hasEntered 19 = .ok (.iconst 0, 1) := by decide +kernel
theorem dX7_hasEntered_20 : decode cX7_hasEntered 20 = .ok (.ireturn, 1) := by decide +kernel
theorem dX7_keepDeparted_0 : decode cX7_keepDeparted 0 = .ok (.aload_n 0, 1) := by decide +kernel
theorem dX7_keepDeparted_1 : decode cX7_keepDeparted 1 = .ok (.getfield 43, 3) := by decide +kernel
theorem dX7_keepDeparted_4 : decode cX7_keepDeparted 4 = .ok (.getfield 69, 3) := by decide +kernel
theorem dX7_keepDeparted_7 : decode cX7_keepDeparted 7 = .ok (.istore_n 2, 1) := by decide +kernel
theorem dX7_keepDeparted_8 : decode cX7_keepDeparted 8 = .ok (.iload_n 2, 1) := by decide +kernel
theorem dX7_keepDeparted_9 : decode cX7_keepDeparted 9 = .ok (.iload_n 1, 1) := by decide +kernel
theorem dX7_keepDeparted_10 : decode cX7_keepDeparted 10 = .ok (.if_icmp .ge 31, 3) := by decide +kernel
theorem dX7_keepDeparted_13 : decode cX7_keepDeparted 13 = .ok (.iload_n 2, 1) := by decide +kernel
theorem dX7_keepDeparted_14 : decode cX7_keepDeparted 14 = .ok (.bipush 20, 2) := by decide +kernel
theorem dX7_keepDeparted_16 : decode cX7_keepDeparted 16 = .ok (.if_icmp .ge 25, 3) := by decide +kernel
theorem dX7_keepDeparted_19 : decode cX7_keepDeparted 19 = .ok (.aload_n 0, 1) := by decide +kernel
theorem dX7_keepDeparted_20 : decode cX7_keepDeparted 20 = .ok (.getfield 18, 3) := by decide +kernel
theorem dX7_keepDeparted_23 : decode cX7_keepDeparted 23 = .ok (.aload_n 0, 1) := by decide +kernel
theorem dX7_keepDeparted_24 : decode cX7_keepDeparted 24 = .ok (.getfield 43, 3) := by decide +kernel
theorem dX7_keepDeparted_27 : decode cX7_keepDeparted 27 = .ok (.getfield 198, 3) := by decide +kernel
theorem dX7_keepDeparted_30 : decode cX7_keepDeparted 30 = .ok (.iload_n 2, 1) := by decide +kernel
theorem dX7_keepDeparted_31 : decode cX7_keepDeparted 31 = .ok (.aaload, 1) := by decide +kernel
theorem dX7_keepDeparted_32 : decode cX7_keepDeparted 32 = .ok (.invokevirtual 287, 3) := by decide +kernel
theorem dX7_keepDeparted_35 : decode cX7_keepDeparted 35 = .ok (.iinc 2 1, 3) := by decide +kernel
theorem dX7_keepDeparted_38 : decode cX7_keepDeparted 38 = .ok (.goto (-30), 3) := by decide +kernel
theorem dX7_keepDeparted_41 : decode cX7_keepDeparted 41 = .ok (.return_, 1) := by decide +kernel
theorem dX7_partProperty_0 : decode cX7_partProperty 0 = .ok (.aload_n 0, 1) := by decide +kernel
theorem dX7_partProperty_1 : decode cX7_partProperty 1 = .ok (.getfield 43, 3) := by decide +kernel
theorem dX7_partProperty_4 : decode cX7_partProperty 4 = .ok (.iload_n 1, 1) := by decide +kernel
theorem dX7_partProperty_5 : decode cX7_partProperty 5 = .ok (.invokevirtual 193, 3) := by decide +kernel
theorem dX7_partProperty_8 : decode cX7_partProperty 8 = .ok (.istore_n 3, 1) := by decide +kernel
theorem dX7_partProperty_9 : decode cX7_partProperty 9 = .ok (.iload_n 3, 1) := by decide +kernel
theorem dX7_partProperty_10 : decode cX7_partProperty 10 = .ok (.iconst (-1), 1) := by decide +kernel
theorem dX7_partProperty_11 : decode cX7_partProperty 11 = .ok (.if_icmp .ne 13, 3) := by decide +kernel
theorem dX7_partProperty_14 : decode cX7_partProperty 14 = .ok (.aload_n 0, 1) := by decide +kernel
theorem dX7_partProperty_15 : decode cX7_partProperty 15 = .ok (.getfield 18, 3) := by decide +kernel
theorem dX7_partProperty_18 : decode cX7_partProperty 18 = .ok (.iload_n 1, 1) := by decide +kernel
theorem dX7_partProperty_19 : decode cX7_partProperty 19 = .ok (.iload_n 2, 1) := by decide +kernel
theorem dX7_partProperty_20 : decode cX7_partProperty 20 = .ok (.invokevirtual 291, 3) := by decide +kernel
theorem dX7_partProperty_23 : decode cX7_partProperty 23 = .ok (.ireturn, 1) := by decide +kernel
theorem dX7_partProperty_24 : decode cX7_partProperty 24 = .ok (.iload_n 2, 1) := by decide +kernel
theorem dX7_partProperty_25 : decode cX7_partProperty 25 = .ok (.bipush 8, 2) := by decide +kernel
theorem dX7_partProperty_27 : decode cX7_partProperty 27 = .ok (.if_icmp .ne 22, 3) := by decide +kernel
theorem dX7_partProperty_30 : decode cX7_partProperty 30 = .ok (.aload_n 0, 1) := by decide +kernel
theorem dX7_partProperty_31 : decode cX7_partProperty 31 = .ok (.getfield 43, 3) := by decide +kernel
theorem dX7_partProperty_34 : decode cX7_partProperty 34 = .ok (.aload_n 0, 1) := by decide +kernel
theorem dX7_partProperty_35 : decode cX7_partProperty 35 = .ok (.getfield 43, 3) := by decide +kernel
theorem dX7_partProperty_38 : decode cX7_partProperty 38 = .ok (.getfield 198, 3) := by decide +kernel
theorem dX7_partProperty_41 : decode cX7_partProperty 41 = .ok (.iload_n 3, 1) := by decide +kernel
theorem dX7_partProperty_42 : decode cX7_partProperty 42 = .ok (.aaload, 1) := by decide +kernel
theorem dX7_partProperty_43 : decode cX7_partProperty 43 = .ok (.invokevirtual 294, 3) := by decide +kernel
theorem dX7_partProperty_46 : decode cX7_partProperty 46 = .ok (.goto 16, 3) := by decide +kernel
theorem dX7_partProperty_49 : decode cX7_partProperty 49 = .ok (.aload_n 0, 1) := by decide +kernel
theorem dX7_partProperty_50 : decode cX7_partProperty 50 = .ok (.getfield 43, 3) := by decide +kernel
theorem dX7_partProperty_53 : decode cX7_partProperty 53 = .ok (.getfield 198, 3) := by decide +kernel
theorem dX7_partProperty_56 : decode cX7_partProperty 56 = .ok (.iload_n 3, 1) := by decide +kernel
theorem dX7_partProperty_57 : decode cX7_partProperty 57 = .ok (.aaload, 1) := by decide +kernel
theorem dX7_partProperty_58 : decode cX7_partProperty 58 = .ok (.iload_n 2, 1) := by decide +kernel
theorem dX7_partProperty_59 : decode cX7_partProperty 59 = .ok (.invokevirtual 297, 3) := by decide +kernel
theorem dX7_partProperty_62 : decode cX7_partProperty 62 = .ok (.ireturn, 1) := by decide +kernel
theorem dX7_sumOverParts_0 : decode cX7_sumOverParts 0 = .ok (.iconst 0, 1) := by decide +kernel
theorem dX7_sumOverParts_1 : decode cX7_sumOverParts 1 = .ok (.istore_n 2, 1) := by decide +kernel
theorem dX7_sumOverParts_2 : decode cX7_sumOverParts 2 = .ok (.iconst 0, 1) := by decide +kernel
theorem dX7_sumOverParts_3 : decode cX7_sumOverParts 3 = .ok (.istore_n 3, 1) := by decide +kernel
theorem dX7_sumOverParts_4 : decode cX7_sumOverParts 4 = .ok (.iload_n 3, 1) := by decide +kernel
theorem dX7_sumOverParts_5 : decode cX7_sumOverParts 5 = .ok (.aload_n 0, 1) := by decide +kernel
theorem dX7_sumOverParts_6 : decode cX7_sumOverParts 6 = .ok (.getfield 43, 3) := by decide +kernel
theorem dX7_sumOverParts_9 : decode cX7_sumOverParts 9 = .ok (.getfield 148, 3) := by decide +kernel
theorem dX7_sumOverParts_12 : decode cX7_sumOverParts 12 = .ok (.if_icmp .ge 18, 3) := by decide +kernel
theorem dX7_sumOverParts_15 : decode cX7_sumOverParts 15 = .ok (.iload_n 2, 1) := by decide +kernel
theorem dX7_sumOverParts_16 : decode cX7_sumOverParts 16 = .ok (.aload_n 0, 1) := by decide +kernel
theorem dX7_sumOverParts_17 : decode cX7_sumOverParts 17 = .ok (.iload_n 3, 1) := by decide +kernel
theorem dX7_sumOverParts_18 : decode cX7_sumOverParts 18 = .ok (.iload_n 1, 1) := by decide +kernel
theorem dX7_sumOverParts_19 : decode cX7_sumOverParts 19 = .ok (.invokevirtual 219, 3) := by decide +kernel
theorem dX7_sumOverParts_22 : decode cX7_sumOverParts 22 = .ok (.iadd, 1) := by decide +kernel
theorem dX7_sumOverParts_23 : decode cX7_sumOverParts 23 = .ok (.istore_n 2, 1) := by decide +kernel
theorem dX7_sumOverParts_24 : decode cX7_sumOverParts 24 = .ok (.iinc 3 1, 3) := by decide +kernel
theorem dX7_sumOverParts_27 : decode cX7_sumOverParts 27 = .ok (.goto (-23), 3) := by decide +kernel
theorem dX7_sumOverParts_30 : decode cX7_sumOverParts 30 = .ok (.iload_n 2, 1) := by decide +kernel
theorem dX7_sumOverParts_31 : decode cX7_sumOverParts 31 = .ok (.ireturn, 1) := by decide +kernel
theorem dX7_countFates_0 : decode cX7_countFates 0 = .ok (.iconst 0, 1) := by decide +kernel
theorem dX7_countFates_1 : decode cX7_countFates 1 = .ok (.istore_n 3, 1) := by decide +kernel
theorem dX7_countFates_2 : decode cX7_countFates 2 = .ok (.iconst 0, 1) := by decide +kernel
theorem dX7_countFates_3 : decode cX7_countFates 3 = .ok (.istore 4, 2) := by decide +kernel
theorem dX7_countFates_5 : decode cX7_countFates 5 = .ok (.iload 4, 2) := by decide +kernel
theorem dX7_countFates_7 : decode cX7_countFates 7 = .ok (.aload_n 0, 1) := by decide +kernel
theorem dX7_countFates_8 : decode cX7_countFates 8 = .ok (.getfield 43, 3) := by decide +kernel
theorem dX7_countFates_11 : decode cX7_countFates 11 = .ok (.getfield 148, 3) := by decide +kernel
theorem dX7_countFates_14 : decode cX7_countFates 14 = .ok (.if_icmp .ge 33, 3) := by decide +kernel
theorem dX7_countFates_17 : decode cX7_countFates 17 = .ok (.aload_n 0, 1) := by decide +kernel
theorem dX7_countFates_18 : decode cX7_countFates 18 = .ok (.iload 4, 2) := by decide +kernel
theorem dX7_countFates_20 : decode cX7_countFates 20 = .ok (.iconst 1, 1) := by decide +kernel
theorem dX7_countFates_21 : decode cX7_countFates 21 = .ok (.invokevirtual 219, 3) := by decide +kernel
theorem dX7_countFates_24 : decode cX7_countFates 24 = .ok (.istore 5, 2) := by decide +kernel
theorem dX7_countFates_26 : decode cX7_countFates 26 = .ok (.iload 5, 2) := by decide +kernel
theorem dX7_countFates_28 : decode cX7_countFates 28 = .ok (.iload_n 1, 1) := by decide +kernel
theorem dX7_countFates_29 : decode cX7_countFates 29 = .ok (.if_icmp .lt 12, 3) := by decide +kernel
theorem dX7_countFates_32 : decode cX7_countFates 32 = .ok (.iload 5, 2) := by decide +kernel
theorem dX7_countFates_34 : decode cX7_countFates 34 = .ok (.iload_n 2, 1) := by decide +kernel
theorem dX7_countFates_35 : decode cX7_countFates 35 = .ok (.if_icmp .gt 6, 3) := by decide +kernel
theorem dX7_countFates_38 : decode cX7_countFates 38 = .ok (.iinc 3 1, 3) := by decide +kernel
theorem dX7_countFates_41 : decode cX7_countFates 41 = .ok (.iinc 4 1, 3) := by decide +kernel
theorem dX7_countFates_44 : decode cX7_countFates 44 = .ok (.goto (-39), 3) := by decide +kernel
theorem dX7_countFates_47 : decode cX7_countFates 47 = .ok (.iload_n 3, 1) := by decide +kernel
theorem dX7_countFates_48 : decode cX7_countFates 48 = .ok (.ireturn, 1) := by decide +kernel
theorem dX7_startTrial_0 : decode cX7_startTrial 0 = .ok (.aload_n 0, 1) := by decide +kernel
theorem dX7_startTrial_1 : decode cX7_startTrial 1 = .ok (.getfield 47, 3) := by decide +kernel
theorem dX7_startTrial_4 : decode cX7_startTrial 4 = .ok (.aload_n 0, 1) := by decide +kernel
theorem dX7_startTrial_5 : decode cX7_startTrial 5 = .ok (.getfield 43, 3) := by decide +kernel
theorem dX7_startTrial_8 : decode cX7_startTrial 8 = .ok (.invokevirtual 213, 3) := by decide +kernel
theorem dX7_startTrial_11 : decode cX7_startTrial 11 = .ok (.aload_n 0, 1) := by decide +kernel
theorem dX7_startTrial_12 : decode cX7_startTrial 12 = .ok (.getfield 47, 3) := by decide +kernel
theorem dX7_startTrial_15 : decode cX7_startTrial 15 = .ok (.invokevirtual 179, 3) := by decide +kernel
theorem dX7_startTrial_18 : decode cX7_startTrial 18 = .ok (.return_, 1) := by decide +kernel
theorem dL_cell_0 : decode cL_cell 0 = .ok (.iload_n 1, 1) := by decide +kernel
theorem dL_cell_1 : decode cL_cell 1 = .ok (.aload_n 0, 1) := by decide +kernel
theorem dL_cell_2 : decode cL_cell 2 = .ok (.arraylength, 1) := by decide +kernel
theorem dL_cell_3 : decode cL_cell 3 = .ok (.if_icmp .ge 9, 3) := by decide +kernel
theorem dL_cell_6 : decode cL_cell 6 = .ok (.aload_n 0, 1) := by decide +kernel
theorem dL_cell_7 : decode cL_cell 7 = .ok (.iload_n 1, 1) := by decide +kernel
theorem dL_cell_8 : decode cL_cell 8 = .ok (.iaload, 1) := by decide +kernel
theorem dL_cell_9 : decode cL_cell 9 = .ok (.goto 9, 3) := by decide +kernel
theorem dL_cell_12 : decode cL_cell 12 = .ok (.ldc 7, 2) := by decide +kernel
theorem dL_cell_14 : decode cL_cell 14 = .ok (.iload_n 1, 1) := by decide +kernel
theorem dL_cell_15 : decode cL_cell 15 = .ok (.iconst 1, 1) := by decide +kernel
theorem dL_cell_16 : decode cL_cell 16 = .ok (.iadd, 1) := by decide +kernel
theorem dL_cell_17 : decode cL_cell 17 = .ok (.imul, 1) := by decide +kernel
theorem dL_cell_18 : decode cL_cell 18 = .ok (.ireturn, 1) := by decide +kernel
theorem dL_low_0 : decode cL_low 0 = .ok (.iload_n 0, 1) := by decide +kernel
theorem dL_low_1 : decode cL_low 1 = .ok (.ldc 8, 2) := by decide +kernel
theorem dL_low_3 : decode cL_low 3 = .ok (.iand, 1) := by decide +kernel
theorem dL_low_4 : decode cL_low 4 = .ok (.iload_n 1, 1) := by decide +kernel
theorem dL_low_5 : decode cL_low 5 = .ok (.irem, 1) := by decide +kernel
theorem dL_low_6 : decode cL_low 6 = .ok (.ireturn, 1) := by decide +kernel
theorem dL_set_0 : decode cL_set 0 = .ok (.aload_n 0, 1) := by decide +kernel
theorem dL_set_1 : decode cL_set 1 = .ok (.iload_n 1, 1) := by decide +kernel
theorem dL_set_2 : decode cL_set 2 = .ok (.iload_n 2, 1) := by decide +kernel
theorem dL_set_3 : decode cL_set 3 = .ok (.invokevirtual 9, 3) := by decide +kernel
theorem dL_set_6 : decode cL_set 6 = .ok (.ireturn, 1) := by decide +kernel
theorem dL_set_7 : decode cL_set 7 = .ok (.astore_n 3, 1) := by decide +kernel
theorem dL_set_8 : decode cL_set 8 = .ok (.ldc 17, 2) := by decide +kernel
theorem dL_set_10 : decode cL_set 10 = .ok (.ireturn, 1) := by decide +kernel
theorem dL_set_11 : decode cL_set 11 = .ok (.astore_n 3, 1) := by decide +kernel
theorem dL_set_12 : decode cL_set 12 = .ok (.ldc 20, 2) := by decide +kernel
theorem dL_set_14 : decode cL_set 14 = .ok (.ireturn, 1) := by decide +kernel
theorem dL_set_15 : decode cL_set 15 = .ok (.astore_n 3, 1) := by decide +kernel
theorem dL_set_16 : decode cL_set 16 = .ok (.ldc 23, 2) := by decide +kernel
theorem dL_set_18 : decode cL_set 18 = .ok (.ireturn, 1) := by decide +kernel
theorem dL_addLane_0 : decode cL_addLane 0 = .ok (.aload_n 0, 1) := by decide +kernel
theorem dL_addLane_1 : decode cL_addLane 1 = .ok (.iload_n 1, 1) := by decide +kernel
theorem dL_addLane_2 : decode cL_addLane 2 = .ok (.iload_n 2, 1) := by decide +kernel
theorem dL_addLane_3 : decode cL_addLane 3 = .ok (.iload_n 3, 1) := by decide +kernel
theorem dL_addLane_4 : decode cL_addLane 4 = .ok (.invokevirtual 24, 3) := by decide +kernel
theorem dL_addLane_7 : decode cL_addLane 7 = .ok (.ireturn, 1) := by decide +kernel
theorem dL_addLane_8 : decode cL_addLane 8 = .ok (.astore 4, 2) := by decide +kernel
theorem dL_addLane_10 : decode cL_addLane 10 = .ok (.ldc 20, 2) := by decide +kernel
theorem dL_addLane_12 : decode cL_addLane 12 = .ok (.ireturn, 1) := by decide +kernel
theorem dL_addLane_13 : decode cL_addLane 13 = .ok (.astore 4, 2) := by decide +kernel
theorem dL_addLane_15 : decode cL_addLane 15 = .ok (.ldc 23, 2) := by decide +kernel
theorem dL_addLane_17 : decode cL_addLane 17 = .ok (.ireturn, 1) := by decide +kernel
theorem dL_emptyLane_0 : decode cL_emptyLane 0 = .ok (.aload_n 0, 1) := by decide +kernel
theorem dL_emptyLane_1 : decode cL_emptyLane 1 = .ok (.iload_n 1, 1) := by decide +kernel
theorem dL_emptyLane_2 : decode cL_emptyLane 2 = .ok (.invokevirtual 28, 3) := by decide +kernel
theorem dL_emptyLane_5 : decode cL_emptyLane 5 = .ok (.ireturn, 1) := by decide +kernel
theorem dL_emptyLane_6 : decode cL_emptyLane 6 = .ok (.astore_n 2, 1) := by decide +kernel
theorem dL_emptyLane_7 : decode cL_emptyLane 7 = .ok (.ldc 17, 2) := by decide +kernel
theorem dL_emptyLane_9 : decode cL_emptyLane 9 = .ok (.ireturn, 1) := by decide +kernel
theorem dL_route_0 : decode cL_route 0 = .ok (.aload_n 0, 1) := by decide +kernel
theorem dL_route_1 : decode cL_route 1 = .ok (.iload_n 1, 1) := by decide +kernel
theorem dL_route_2 : decode cL_route 2 = .ok (.iload_n 2, 1) := by decide +kernel
theorem dL_route_3 : decode cL_route 3 = .ok (.invokevirtual 32, 3) := by decide +kernel
theorem dL_route_6 : decode cL_route 6 = .ok (.ireturn, 1) := by decide +kernel
theorem dL_route_7 : decode cL_route 7 = .ok (.astore_n 3, 1) := by decide +kernel
theorem dL_route_8 : decode cL_route 8 = .ok (.ldc 20, 2) := by decide +kernel
theorem dL_route_10 : decode cL_route 10 = .ok (.ireturn, 1) := by decide +kernel
theorem dL_route_11 : decode cL_route 11 = .ok (.astore_n 3, 1) := by decide +kernel
theorem dL_route_12 : decode cL_route 12 = .ok (.ldc 17, 2) := by decide +kernel
theorem dL_route_14 : decode cL_route 14 = .ok (.ireturn, 1) := by decide +kernel
theorem dL_route_15 : decode cL_route 15 = .ok (.astore_n 3, 1) := by decide +kernel
theorem dL_route_16 : decode cL_route 16 = .ok (.ldc 23, 2) := by decide +kernel
theorem dL_route_18 : decode cL_route 18 = .ok (.ireturn, 1) := by decide +kernel
theorem dL_removeRoute_0 : decode cL_removeRoute 0 = .ok (.aload_n 0, 1) := by decide +kernel
theorem dL_removeRoute_1 : decode cL_removeRoute 1 = .ok (.iload_n 1, 1) := by decide +kernel
theorem dL_removeRoute_2 : decode cL_removeRoute 2 = .ok (.invokevirtual 35, 3) := by decide +kernel
theorem dL_removeRoute_5 : decode cL_removeRoute 5 = .ok (.ireturn, 1) := by decide +kernel
theorem dL_removeRoute_6 : decode cL_removeRoute 6 = .ok (.astore_n 2, 1) := by decide +kernel
theorem dL_removeRoute_7 : decode cL_removeRoute 7 = .ok (.ldc 20, 2) := by decide +kernel
theorem dL_removeRoute_9 : decode cL_removeRoute 9 = .ok (.ireturn, 1) := by decide +kernel
theorem dL_removeRoute_10 : decode cL_removeRoute 10 = .ok (.astore_n 2, 1) := by decide +kernel
theorem dL_removeRoute_11 : decode cL_removeRoute 11 = .ok (.ldc 23, 2) := by decide +kernel
theorem dL_removeRoute_13 : decode cL_removeRoute 13 = .ok (.ireturn, 1) := by decide +kernel
theorem dL_enter_0 : decode cL_enter 0 = .ok (.aload_n 0, 1) := by decide +kernel
theorem dL_enter_1 : decode cL_enter 1 = .ok (.iload_n 1, 1) := by decide +kernel
theorem dL_enter_2 : decode cL_enter 2 = .ok (.invokevirtual 38, 3) := by decide +kernel
theorem dL_enter_5 : decode cL_enter 5 = .ok (.ireturn, 1) := by decide +kernel
theorem dL_enter_6 : decode cL_enter 6 = .ok (.astore_n 2, 1) := by decide +kernel
theorem dL_enter_7 : decode cL_enter 7 = .ok (.ldc 20, 2) := by decide +kernel
theorem dL_enter_9 : decode cL_enter 9 = .ok (.ireturn, 1) := by decide +kernel
theorem dL_enter_10 : decode cL_enter 10 = .ok (.astore_n 2, 1) := by decide +kernel
theorem dL_enter_11 : decode cL_enter 11 = .ok (.ldc 23, 2) := by decide +kernel
theorem dL_enter_13 : decode cL_enter 13 = .ok (.ireturn, 1) := by decide +kernel
theorem dL_read_0 : decode cL_read 0 = .ok (.aload_n 0, 1) := by decide +kernel
theorem dL_read_1 : decode cL_read 1 = .ok (.iload_n 1, 1) := by decide +kernel
theorem dL_read_2 : decode cL_read 2 = .ok (.invokevirtual 41, 3) := by decide +kernel
theorem dL_read_5 : decode cL_read 5 = .ok (.ireturn, 1) := by decide +kernel
theorem dL_read_6 : decode cL_read 6 = .ok (.astore_n 2, 1) := by decide +kernel
theorem dL_read_7 : decode cL_read 7 = .ok (.ldc 20, 2) := by decide +kernel
theorem dL_read_9 : decode cL_read 9 = .ok (.ireturn, 1) := by decide +kernel
theorem dL_move_0 : decode cL_move 0 = .ok (.aload_n 0, 1) := by decide +kernel
theorem dL_move_1 : decode cL_move 1 = .ok (.iload_n 1, 1) := by decide +kernel
theorem dL_move_2 : decode cL_move 2 = .ok (.invokevirtual 44, 3) := by decide +kernel
theorem dL_move_5 : decode cL_move 5 = .ok (.ireturn, 1) := by decide +kernel
theorem dL_move_6 : decode cL_move 6 = .ok (.astore_n 2, 1) := by decide +kernel
theorem dL_move_7 : decode cL_move 7 = .ok (.ldc 20, 2) := by decide +kernel
theorem dL_move_9 : decode cL_move 9 = .ok (.ireturn, 1) := by decide +kernel
theorem dL_move_10 : decode cL_move 10 = .ok (.astore_n 2, 1) := by decide +kernel
theorem dL_move_11 : decode cL_move 11 = .ok (.ldc 23, 2) := by decide +kernel
theorem dL_move_13 : decode cL_move 13 = .ok (.ireturn, 1) := by decide +kernel
theorem dL_takeOff_0 : decode cL_takeOff 0 = .ok (.aload_n 0, 1) := by decide +kernel
theorem dL_takeOff_1 : decode cL_takeOff 1 = .ok (.iload_n 1, 1) := by decide +kernel
theorem dL_takeOff_2 : decode cL_takeOff 2 = .ok (.invokevirtual 47, 3) := by decide +kernel
theorem dL_takeOff_5 : decode cL_takeOff 5 = .ok (.ireturn, 1) := by decide +kernel
theorem dL_takeOff_6 : decode cL_takeOff 6 = .ok (.astore_n 2, 1) := by decide +kernel
theorem dL_takeOff_7 : decode cL_takeOff 7 = .ok (.ldc 17, 2) := by decide +kernel
theorem dL_takeOff_9 : decode cL_takeOff 9 = .ok (.ireturn, 1) := by decide +kernel
theorem dL_takeOff_10 : decode cL_takeOff 10 = .ok (.astore_n 2, 1) := by decide +kernel
theorem dL_takeOff_11 : decode cL_takeOff 11 = .ok (.ldc 23, 2) := by decide +kernel
theorem dL_takeOff_13 : decode cL_takeOff 13 = .ok (.ireturn, 1) := by decide +kernel
theorem dL_undo_0 : decode cL_undo 0 = .ok (.aload_n 0, 1) := by decide +kernel
theorem dL_undo_1 : decode cL_undo 1 = .ok (.invokevirtual 50, 3) := by decide +kernel
theorem dL_undo_4 : decode cL_undo 4 = .ok (.ireturn, 1) := by decide +kernel
theorem dL_undo_5 : decode cL_undo 5 = .ok (.astore_n 1, 1) := by decide +kernel
theorem dL_undo_6 : decode cL_undo 6 = .ok (.ldc 23, 2) := by decide +kernel
theorem dL_undo_8 : decode cL_undo 8 = .ok (.ireturn, 1) := by decide +kernel
theorem dL_part_0 : decode cL_part 0 = .ok (.aload_n 0, 1) := by decide +kernel
theorem dL_part_1 : decode cL_part 1 = .ok (.iload_n 1, 1) := by decide +kernel
theorem dL_part_2 : decode cL_part 2 = .ok (.iload_n 2, 1) := by decide +kernel
theorem dL_part_3 : decode cL_part 3 = .ok (.invokevirtual 54, 3) := by decide +kernel
theorem dL_part_6 : decode cL_part 6 = .ok (.ireturn, 1) := by decide +kernel
theorem dL_part_7 : decode cL_part 7 = .ok (.astore_n 3, 1) := by decide +kernel
theorem dL_part_8 : decode cL_part 8 = .ok (.ldc 17, 2) := by decide +kernel
theorem dL_part_10 : decode cL_part 10 = .ok (.ireturn, 1) := by decide +kernel
theorem dL_part_11 : decode cL_part 11 = .ok (.astore_n 3, 1) := by decide +kernel
theorem dL_part_12 : decode cL_part 12 = .ok (.ldc 20, 2) := by decide +kernel
theorem dL_part_14 : decode cL_part 14 = .ok (.ireturn, 1) := by decide +kernel
theorem dL_lane_0 : decode cL_lane 0 = .ok (.aload_n 0, 1) := by decide +kernel
theorem dL_lane_1 : decode cL_lane 1 = .ok (.iload_n 1, 1) := by decide +kernel
theorem dL_lane_2 : decode cL_lane 2 = .ok (.iload_n 2, 1) := by decide +kernel
theorem dL_lane_3 : decode cL_lane 3 = .ok (.invokevirtual 57, 3) := by decide +kernel
theorem dL_lane_6 : decode cL_lane 6 = .ok (.ireturn, 1) := by decide +kernel
theorem dL_lane_7 : decode cL_lane 7 = .ok (.astore_n 3, 1) := by decide +kernel
theorem dL_lane_8 : decode cL_lane 8 = .ok (.ldc 17, 2) := by decide +kernel
theorem dL_lane_10 : decode cL_lane 10 = .ok (.ireturn, 1) := by decide +kernel
theorem dL_lane_11 : decode cL_lane 11 = .ok (.astore_n 3, 1) := by decide +kernel
theorem dL_lane_12 : decode cL_lane 12 = .ok (.ldc 20, 2) := by decide +kernel
theorem dL_lane_14 : decode cL_lane 14 = .ok (.ireturn, 1) := by decide +kernel
theorem dL_total_0 : decode cL_total 0 = .ok (.aload_n 0, 1) := by decide +kernel
theorem dL_total_1 : decode cL_total 1 = .ok (.iload_n 1, 1) := by decide +kernel
theorem dL_total_2 : decode cL_total 2 = .ok (.invokevirtual 60, 3) := by decide +kernel
theorem dL_total_5 : decode cL_total 5 = .ok (.ireturn, 1) := by decide +kernel
theorem dL_total_6 : decode cL_total 6 = .ok (.astore_n 2, 1) := by decide +kernel
theorem dL_total_7 : decode cL_total 7 = .ok (.ldc 20, 2) := by decide +kernel
theorem dL_total_9 : decode cL_total 9 = .ok (.ireturn, 1) := by decide +kernel
theorem dL_lost_0 : decode cL_lost 0 = .ok (.aload_n 0, 1) := by decide +kernel
theorem dL_lost_1 : decode cL_lost 1 = .ok (.iload_n 1, 1) := by decide +kernel
theorem dL_lost_2 : decode cL_lost 2 = .ok (.invokevirtual 63, 3) := by decide +kernel
theorem dL_lost_5 : decode cL_lost 5 = .ok (.ireturn, 1) := by decide +kernel
theorem dL_lost_6 : decode cL_lost 6 = .ok (.astore_n 2, 1) := by decide +kernel
theorem dL_lost_7 : decode cL_lost 7 = .ok (.ldc 20, 2) := by decide +kernel
theorem dL_lost_9 : decode cL_lost 9 = .ok (.ireturn, 1) := by decide +kernel
theorem dL_setting_0 : decode cL_setting 0 = .ok (.aload_n 0, 1) := by decide +kernel
theorem dL_setting_1 : decode cL_setting 1 = .ok (.iload_n 1, 1) := by decide +kernel
theorem dL_setting_2 : decode cL_setting 2 = .ok (.invokevirtual 66, 3) := by decide +kernel
theorem dL_setting_5 : decode cL_setting 5 = .ok (.ireturn, 1) := by decide +kernel
theorem dL_setting_6 : decode cL_setting 6 = .ok (.astore_n 2, 1) := by decide +kernel
theorem dL_setting_7 : decode cL_setting 7 = .ok (.ldc 17, 2) := by decide +kernel
theorem dL_setting_9 : decode cL_setting 9 = .ok (.ireturn, 1) := by decide +kernel
theorem dL_routeAt_0 : decode cL_routeAt 0 = .ok (.aload_n 0, 1) := by decide +kernel
theorem dL_routeAt_1 : decode cL_routeAt 1 = .ok (.iload_n 1, 1) := by decide +kernel
theorem dL_routeAt_2 : decode cL_routeAt 2 = .ok (.invokevirtual 69, 3) := by decide +kernel
theorem dL_routeAt_5 : decode cL_routeAt 5 = .ok (.ireturn, 1) := by decide +kernel
theorem dL_routeAt_6 : decode cL_routeAt 6 = .ok (.astore_n 2, 1) := by decide +kernel
theorem dL_routeAt_7 : decode cL_routeAt 7 = .ok (.ldc 20, 2) := by decide +kernel
theorem dL_routeAt_9 : decode cL_routeAt 9 = .ok (.ireturn, 1) := by decide +kernel
theorem dL_gapAhead_0 : decode cL_gapAhead 0 = .ok (.aload_n 0, 1) := by decide +kernel
theorem dL_gapAhead_1 : decode cL_gapAhead 1 = .ok (.iload_n 1, 1) := by decide +kernel
theorem dL_gapAhead_2 : decode cL_gapAhead 2 = .ok (.invokevirtual 72, 3) := by decide +kernel
theorem dL_gapAhead_5 : decode cL_gapAhead 5 = .ok (.ireturn, 1) := by decide +kernel
theorem dL_gapAhead_6 : decode cL_gapAhead 6 = .ok (.astore_n 2, 1) := by decide +kernel
theorem dL_gapAhead_7 : decode cL_gapAhead 7 = .ok (.ldc 17, 2) := by decide +kernel
theorem dL_gapAhead_9 : decode cL_gapAhead 9 = .ok (.ireturn, 1) := by decide +kernel
theorem dL_gapAhead_10 : decode cL_gapAhead 10 = .ok (.astore_n 2, 1) := by decide +kernel
theorem dL_gapAhead_11 : decode cL_gapAhead 11 = .ok (.ldc 23, 2) := by decide +kernel
theorem dL_gapAhead_13 : decode cL_gapAhead 13 = .ok (.ireturn, 1) := by decide +kernel
theorem dL_ranked_0 : decode cL_ranked 0 = .ok (.aload_n 0, 1) := by decide +kernel
theorem dL_ranked_1 : decode cL_ranked 1 = .ok (.iload_n 1, 1) := by decide +kernel
theorem dL_ranked_2 : decode cL_ranked 2 = .ok (.invokevirtual 75, 3) := by decide +kernel
theorem dL_ranked_5 : decode cL_ranked 5 = .ok (.ireturn, 1) := by decide +kernel
theorem dL_ranked_6 : decode cL_ranked 6 = .ok (.astore_n 2, 1) := by decide +kernel
theorem dL_ranked_7 : decode cL_ranked 7 = .ok (.ldc 20, 2) := by decide +kernel
theorem dL_ranked_9 : decode cL_ranked 9 = .ok (.ireturn, 1) := by decide +kernel
theorem dL_fateOf_0 : decode cL_fateOf 0 = .ok (.aload_n 0, 1) := by decide +kernel
theorem dL_fateOf_1 : decode cL_fateOf 1 = .ok (.iload_n 1, 1) := by decide +kernel
theorem dL_fateOf_2 : decode cL_fateOf 2 = .ok (.invokevirtual 78, 3) := by decide +kernel
theorem dL_fateOf_5 : decode cL_fateOf 5 = .ok (.ireturn, 1) := by decide +kernel
theorem dL_fateOf_6 : decode cL_fateOf 6 = .ok (.astore_n 2, 1) := by decide +kernel
theorem dL_fateOf_7 : decode cL_fateOf 7 = .ok (.ldc 17, 2) := by decide +kernel
theorem dL_fateOf_9 : decode cL_fateOf 9 = .ok (.ireturn, 1) := by decide +kernel
theorem dL_laneFor_0 : decode cL_laneFor 0 = .ok (.aload_n 0, 1) := by decide +kernel
theorem dL_laneFor_1 : decode cL_laneFor 1 = .ok (.iload_n 1, 1) := by decide +kernel
theorem dL_laneFor_2 : decode cL_laneFor 2 = .ok (.iload_n 2, 1) := by decide +kernel
theorem dL_laneFor_3 : decode cL_laneFor 3 = .ok (.invokevirtual 81, 3) := by decide +kernel
theorem dL_laneFor_6 : decode cL_laneFor 6 = .ok (.ireturn, 1) := by decide +kernel
theorem dL_laneFor_7 : decode cL_laneFor 7 = .ok (.astore_n 3, 1) := by decide +kernel
theorem dL_laneFor_8 : decode cL_laneFor 8 = .ok (.ldc 20, 2) := by decide +kernel
theorem dL_laneFor_10 : decode cL_laneFor 10 = .ok (.ireturn, 1) := by decide +kernel
theorem dL_change_0 : decode cL_change 0 = .ok (.iload_n 1, 1) := by decide +kernel
theorem dL_change_1 : decode cL_change 1 = .ok (.bipush 24, 2) := by decide +kernel
theorem dL_change_3 : decode cL_change 3 = .ok (.invokestatic 84, 3) := by decide +kernel
theorem dL_change_6 : decode cL_change 6 = .ok (.tableswitch 244 0 18 #[90, 111, 111, 148, 158, 158, 158, 192, 203, 203, 203, 203, 203, 217, 217, 217, 217, 228, 239], 90) := by decide +kernel
theorem dL_change_96 : decode cL_change 96 = .ok (.aload_n 0, 1) := by decide +kernel
theorem dL_change_97 : decode cL_change 97 = .ok (.iload_n 2, 1) := by decide +kernel
theorem dL_change_98 : decode cL_change 98 = .ok (.bipush 7, 2) := by decide +kernel
theorem dL_change_100 : decode cL_change 100 = .ok (.invokestatic 84, 3) := by decide +kernel
theorem dL_change_103 : decode cL_change 103 = .ok (.iload_n 2, 1) := by decide +kernel
theorem dL_change_104 : decode cL_change 104 = .ok (.bipush 7, 2) := by decide +kernel
theorem dL_change_106 : decode cL_change 106 = .ok (.idiv, 1) := by decide +kernel
theorem dL_change_107 : decode cL_change 107 = .ok (.sipush 400, 3) := by decide +kernel
theorem dL_change_110 : decode cL_change 110 = .ok (.invokestatic 84, 3) := by decide +kernel
theorem dL_change_113 : decode cL_change 113 = .ok (.invokestatic 89, 3) := by decide +kernel
theorem dL_change_116 : decode cL_change 116 = .ok (.ireturn, 1) := by decide +kernel
theorem dL_change_117 : decode cL_change 117 = .ok (.aload_n 0, 1) := by decide +kernel
theorem dL_change_118 : decode cL_change 118 = .ok (.sipush 320, 3) := by decide +kernel
theorem dL_change_121 : decode cL_change 121 = .ok (.iload_n 2, 1) := by decide +kernel
theorem dL_change_122 : decode cL_change 122 = .ok (.sipush 500, 3) := by decide +kernel
theorem dL_change_125 : decode cL_change 125 = .ok (.invokestatic 84, 3) := by decide +kernel
theorem dL_change_128 : decode cL_change 128 = .ok (.iadd, 1) := by decide +kernel
theorem dL_change_129 : decode cL_change 129 = .ok (.iconst 1, 1) := by decide +kernel
theorem dL_change_130 : decode cL_change 130 = .ok (.iload_n 2, 1) := by decide +kernel
theorem dL_change_131 : decode cL_change 131 = .ok (.sipush 500, 3) := by decide +kernel
theorem dL_change_134 : decode cL_change 134 = .ok (.idiv, 1) := by decide +kernel
theorem dL_change_135 : decode cL_change 135 = .ok (.sipush 201, 3) := by decide +kernel
theorem dL_change_138 : decode cL_change 138 = .ok (.invokestatic 84, 3) := by decide +kernel
theorem dL_change_141 : decode cL_change 141 = .ok (.iadd, 1) := by decide +kernel
theorem dL_change_142 : decode cL_change 142 = .ok (.iload_n 2, 1) := by decide +kernel
theorem dL_change_143 : decode cL_change 143 = .ok (.bipush 99, 2) := by decide +kernel
theorem dL_change_145 : decode cL_change 145 = .ok (.idiv, 1) := by decide +kernel
theorem dL_change_146 : decode cL_change 146 = .ok (.iconst 5, 1) := by decide +kernel
theorem dL_change_147 : decode cL_change 147 = .ok (.invokestatic 84, 3) := by decide +kernel
theorem dL_change_150 : decode cL_change 150 = .ok (.invokestatic 92, 3) := by decide +kernel
theorem dL_change_153 : decode cL_change 153 = .ok (.ireturn, 1) := by decide +kernel
theorem dL_change_154 : decode cL_change 154 = .ok (.aload_n 0, 1) := by decide +kernel
theorem dL_change_155 : decode cL_change 155 = .ok (.iload_n 2, 1) := by decide +kernel
theorem dL_change_156 : decode cL_change 156 = .ok (.iconst 4, 1) := by decide +kernel
theorem dL_change_157 : decode cL_change 157 = .ok (.invokestatic 84, 3) := by decide +kernel
theorem dL_change_160 : decode cL_change 160 = .ok (.invokestatic 95, 3) := by decide +kernel
theorem dL_change_163 : decode cL_change 163 = .ok (.ireturn, 1) := by decide +kernel
theorem dL_change_164 : decode cL_change 164 = .ok (.aload_n 0, 1) := by decide +kernel
theorem dL_change_165 : decode cL_change 165 = .ok (.iload_n 2, 1) := by decide +kernel
theorem dL_change_166 : decode cL_change 166 = .ok (.bipush 9, 2) := by decide +kernel
theorem dL_change_168 : decode cL_change 168 = .ok (.invokestatic 84, 3) := by decide +kernel
theorem dL_change_171 : decode cL_change 171 = .ok (.ifCond .ne 9, 3) := by decide +kernel
theorem dL_change_174 : decode cL_change 174 = .ok (.sipush 1000, 3) := by decide +kernel
theorem dL_change_177 : decode cL_change 177 = .ok (.goto 9, 3) := by decide +kernel
theorem dL_change_180 : decode cL_change 180 = .ok (.iload_n 2, 1) := by decide +kernel
theorem dL_change_181 : decode cL_change 181 = .ok (.bipush 6, 2) := by decide +kernel
theorem dL_change_183 : decode cL_change 183 = .ok (.invokestatic 84, 3) := by decide +kernel
theorem dL_change_186 : decode cL_change 186 = .ok (.iload_n 2, 1) := by decide +kernel
theorem dL_change_187 : decode cL_change 187 = .ok (.bipush 6, 2) := by decide +kernel
theorem dL_change_189 : decode cL_change 189 = .ok (.idiv, 1) := by decide +kernel
theorem dL_change_190 : decode cL_change 190 = .ok (.iconst 5, 1) := by decide +kernel
theorem dL_change_191 : decode cL_change 191 = .ok (.invokestatic 84, 3) := by decide +kernel
theorem dL_change_194 : decode cL_change 194 = .ok (.invokestatic 98, 3) := by decide +kernel
theorem dL_change_197 : decode cL_change 197 = .ok (.ireturn, 1) := by decide +kernel
theorem dL_change_198 : decode cL_change 198 = .ok (.aload_n 0, 1) := by decide +kernel
theorem dL_change_199 : decode cL_change 199 = .ok (.iload_n 2, 1) := by decide +kernel
theorem dL_change_200 : decode cL_change 200 = .ok (.bipush 6, 2) := by decide +kernel
theorem dL_change_202 : decode cL_change 202 = .ok (.invokestatic 84, 3) := by decide +kernel
theorem dL_change_205 : decode cL_change 205 = .ok (.invokestatic 100, 3) := by decide +kernel
theorem dL_change_208 : decode cL_change 208 = .ok (.ireturn, 1) := by decide +kernel
theorem dL_change_209 : decode cL_change 209 = .ok (.aload_n 0, 1) := by decide +kernel
theorem dL_change_210 : decode cL_change 210 = .ok (.bipush 9, 2) := by decide +kernel
theorem dL_change_212 : decode cL_change 212 = .ok (.iload_n 2, 1) := by decide +kernel
theorem dL_change_213 : decode cL_change 213 = .ok (.bipush 90, 2) := by decide +kernel
theorem dL_change_215 : decode cL_change 215 = .ok (.invokestatic 84, 3) := by decide +kernel
theorem dL_change_218 : decode cL_change 218 = .ok (.iadd, 1) := by decide +kernel
theorem dL_change_219 : decode cL_change 219 = .ok (.invokestatic 102, 3) := by decide +kernel
theorem dL_change_222 : decode cL_change 222 = .ok (.ireturn, 1) := by decide +kernel
theorem dL_change_223 : decode cL_change 223 = .ok (.aload_n 0, 1) := by decide +kernel
theorem dL_change_224 : decode cL_change 224 = .ok (.iload_n 2, 1) := by decide +kernel
theorem dL_change_225 : decode cL_change 225 = .ok (.bipush 6, 2) := by decide +kernel
theorem dL_change_227 : decode cL_change 227 = .ok (.invokestatic 84, 3) := by decide +kernel
theorem dL_change_230 : decode cL_change 230 = .ok (.invokestatic 104, 3) := by decide +kernel
theorem dL_change_233 : decode cL_change 233 = .ok (.ireturn, 1) := by decide +kernel
theorem dL_change_234 : decode cL_change 234 = .ok (.aload_n 0, 1) := by decide +kernel
theorem dL_change_235 : decode cL_change 235 = .ok (.iload_n 2, 1) := by decide +kernel
theorem dL_change_236 : decode cL_change 236 = .ok (.bipush 12, 2) := by decide +kernel
theorem dL_change_238 : decode cL_change 238 = .ok (.invokestatic 84, 3) := by decide +kernel
theorem dL_change_241 : decode cL_change 241 = .ok (.invokestatic 106, 3) := by decide +kernel
theorem dL_change_244 : decode cL_change 244 = .ok (.ireturn, 1) := by decide +kernel
theorem dL_change_245 : decode cL_change 245 = .ok (.aload_n 0, 1) := by decide +kernel
theorem dL_change_246 : decode cL_change 246 = .ok (.invokestatic 108, 3) := by decide +kernel
theorem dL_change_249 : decode cL_change 249 = .ok (.ireturn, 1) := by decide +kernel
theorem dL_change_250 : decode cL_change 250 = .ok (.aload_n 0, 1) := by decide +kernel
theorem dL_change_251 : decode cL_change 251 = .ok (.iload_n 2, 1) := by decide +kernel
theorem dL_change_252 : decode cL_change 252 = .ok (.iconst 5, 1) := by decide +kernel
theorem dL_change_253 : decode cL_change 253 = .ok (.invokestatic 84, 3) := by decide +kernel
theorem dL_change_256 : decode cL_change 256 = .ok (.ifCond .ne 17, 3) := by decide +kernel
theorem dL_change_259 : decode cL_change 259 = .ok (.iconst 1, 1) := by decide +kernel
theorem dL_change_260 : decode cL_change 260 = .ok (.iload_n 2, 1) := by decide +kernel
theorem dL_change_261 : decode cL_change 261 = .ok (.iconst 5, 1) := by decide +kernel
theorem dL_change_262 : decode cL_change 262 = .ok (.idiv, 1) := by decide +kernel
theorem dL_change_263 : decode cL_change 263 = .ok (.sipush 500, 3) := by decide +kernel
theorem dL_change_266 : decode cL_change 266 = .ok (.invokestatic 84, 3) := by decide +kernel
theorem dL_change_269 : decode cL_change 269 = .ok (.iadd, 1) := by decide +kernel
theorem dL_change_270 : decode cL_change 270 = .ok (.goto 13, 3) := by decide +kernel
theorem dL_change_273 : decode cL_change 273 = .ok (.iconst 1, 1) := by decide +kernel
theorem dL_change_274 : decode cL_change 274 = .ok (.iload_n 2, 1) := by decide +kernel
theorem dL_change_275 : decode cL_change 275 = .ok (.iconst 5, 1) := by decide +kernel
theorem dL_change_276 : decode cL_change 276 = .ok (.idiv, 1) := by decide +kernel
theorem dL_change_277 : decode cL_change 277 = .ok (.bipush 90, 2) := by decide +kernel
theorem dL_change_279 : decode cL_change 279 = .ok (.invokestatic 84, 3) := by decide +kernel
theorem dL_change_282 : decode cL_change 282 = .ok (.iadd, 1) := by decide +kernel
theorem dL_change_283 : decode cL_change 283 = .ok (.invokestatic 111, 3) := by decide +kernel
theorem dL_change_286 : decode cL_change 286 = .ok (.ireturn, 1) := by decide +kernel
theorem dL_ask_0 : decode cL_ask 0 = .ok (.iload_n 1, 1) := by decide +kernel
theorem dL_ask_1 : decode cL_ask 1 = .ok (.bipush 8, 2) := by decide +kernel
theorem dL_ask_3 : decode cL_ask 3 = .ok (.invokestatic 84, 3) := by decide +kernel
theorem dL_ask_6 : decode cL_ask 6 = .ok (.tableswitch 125 0 6 #[42, 53, 58, 63, 88, 101, 112], 42) := by decide +kernel
theorem dL_ask_48 : decode cL_ask 48 = .ok (.aload_n 0, 1) := by decide +kernel
theorem dL_ask_49 : decode cL_ask 49 = .ok (.iload_n 2, 1) := by decide +kernel
theorem dL_ask_50 : decode cL_ask 50 = .ok (.bipush 9, 2) := by decide +kernel
theorem dL_ask_52 : decode cL_ask 52 = .ok (.invokestatic 84, 3) := by decide +kernel
theorem dL_ask_55 : decode cL_ask 55 = .ok (.invokestatic 113, 3) := by decide +kernel
theorem dL_ask_58 : decode cL_ask 58 = .ok (.ireturn, 1) := by decide +kernel
theorem dL_ask_59 : decode cL_ask 59 = .ok (.aload_n 0, 1) := by decide +kernel
theorem dL_ask_60 : decode cL_ask 60 = .ok (.invokevirtual 115, 3) := by decide +kernel
theorem dL_ask_63 : decode cL_ask 63 = .ok (.ireturn, 1) := by decide +kernel
theorem dL_ask_64 : decode cL_ask 64 = .ok (.aload_n 0, 1) := by decide +kernel
theorem dL_ask_65 : decode cL_ask 65 = .ok (.invokevirtual 118, 3) := by decide +kernel
theorem dL_ask_68 : decode cL_ask 68 = .ok (.ireturn, 1) := by decide +kernel
theorem dL_ask_69 : decode cL_ask 69 = .ok (.aload_n 0, 1) := by decide +kernel
theorem dL_ask_70 : decode cL_ask 70 = .ok (.iload_n 2, 1) := by decide +kernel
theorem dL_ask_71 : decode cL_ask 71 = .ok (.sipush 1001, 3) := by decide +kernel
theorem dL_ask_74 : decode cL_ask 74 = .ok (.invokestatic 84, 3) := by decide +kernel
theorem dL_ask_77 : decode cL_ask 77 = .ok (.bipush 9, 2) := by decide +kernel
theorem dL_ask_79 : decode cL_ask 79 = .ok (.iload_n 2, 1) := by decide +kernel
theorem dL_ask_80 : decode cL_ask 80 = .ok (.bipush 7, 2) := by decide +kernel
theorem dL_ask_82 : decode cL_ask 82 = .ok (.idiv, 1) := by decide +kernel
theorem dL_ask_83 : decode cL_ask 83 = .ok (.sipush 393, 3) := by decide +kernel
theorem dL_ask_86 : decode cL_ask 86 = .ok (.invokestatic 84, 3) := by decide +kernel
theorem dL_ask_89 : decode cL_ask 89 = .ok (.iadd, 1) := by decide +kernel
theorem dL_ask_90 : decode cL_ask 90 = .ok (.invokestatic 121, 3) := by decide +kernel
theorem dL_ask_93 : decode cL_ask 93 = .ok (.ireturn, 1) := by decide +kernel
theorem dL_ask_94 : decode cL_ask 94 = .ok (.aload_n 0, 1) := by decide +kernel
theorem dL_ask_95 : decode cL_ask 95 = .ok (.iload_n 2, 1) := by decide +kernel
theorem dL_ask_96 : decode cL_ask 96 = .ok (.bipush 6, 2) := by decide +kernel
theorem dL_ask_98 : decode cL_ask 98 = .ok (.invokestatic 84, 3) := by decide +kernel
theorem dL_ask_101 : decode cL_ask 101 = .ok (.iconst 1, 1) := by decide +kernel
theorem dL_ask_102 : decode cL_ask 102 = .ok (.isub, 1) := by decide +kernel
theorem dL_ask_103 : decode cL_ask 103 = .ok (.invokestatic 123, 3) := by decide +kernel
theorem dL_ask_106 : decode cL_ask 106 = .ok (.ireturn, 1) := by decide +kernel
theorem dL_ask_107 : decode cL_ask 107 = .ok (.aload_n 0, 1) := by decide +kernel
theorem dL_ask_108 : decode cL_ask 108 = .ok (.iload_n 2, 1) := by decide +kernel
theorem dL_ask_109 : decode cL_ask 109 = .ok (.bipush 9, 2) := by decide +kernel
theorem dL_ask_111 : decode cL_ask 111 = .ok (.invokestatic 84, 3) := by decide +kernel
theorem dL_ask_114 : decode cL_ask 114 = .ok (.invokestatic 125, 3) := by decide +kernel
theorem dL_ask_117 : decode cL_ask 117 = .ok (.ireturn, 1) := by decide +kernel
theorem dL_ask_118 : decode cL_ask 118 = .ok (.aload_n 0, 1) := by decide +kernel
theorem dL_ask_119 : decode cL_ask 119 = .ok (.iload_n 2, 1) := by decide +kernel
theorem dL_ask_120 : decode cL_ask 120 = .ok (.bipush 8, 2) := by decide +kernel
theorem dL_ask_122 : decode cL_ask 122 = .ok (.invokestatic 84, 3) := by decide +kernel
theorem dL_ask_125 : decode cL_ask 125 = .ok (.iconst 1, 1) := by decide +kernel
theorem dL_ask_126 : decode cL_ask 126 = .ok (.isub, 1) := by decide +kernel
theorem dL_ask_127 : decode cL_ask 127 = .ok (.invokestatic 127, 3) := by decide +kernel
theorem dL_ask_130 : decode cL_ask 130 = .ok (.ireturn, 1) := by decide +kernel
theorem dL_ask_131 : decode cL_ask 131 = .ok (.aload_n 0, 1) := by decide +kernel
theorem dL_ask_132 : decode cL_ask 132 = .ok (.invokevirtual 129, 3) := by decide +kernel
theorem dL_ask_135 : decode cL_ask 135 = .ok (.ireturn, 1) := by decide +kernel
theorem dL_isCounted_0 : decode cL_isCounted 0 = .ok (.iconst 0, 1) := by decide +kernel
theorem dL_isCounted_1 : decode cL_isCounted 1 = .ok (.istore_n 1, 1) := by decide +kernel
theorem dL_isCounted_2 : decode cL_isCounted 2 = .ok (.iconst 1, 1) := by decide +kernel
theorem dL_isCounted_3 : decode cL_isCounted 3 = .ok (.istore_n 2, 1) := by decide +kernel
theorem dL_isCounted_4 : decode cL_isCounted 4 = .ok (.iload_n 2, 1) := by decide +kernel
theorem dL_isCounted_5 : decode cL_isCounted 5 = .ok (.bipush 7, 2) := by decide +kernel
theorem dL_isCounted_7 : decode cL_isCounted 7 = .ok (.if_icmp .ge 17, 3) := by decide +kernel
theorem dL_isCounted_10 : decode cL_isCounted 10 = .ok (.iload_n 1, 1) := by decide +kernel
theorem dL_isCounted_11 : decode cL_isCounted 11 = .ok (.aload_n 0, 1) := by decide +kernel
theorem dL_isCounted_12 : decode cL_isCounted 12 = .ok (.iload_n 2, 1) := by decide +kernel
theorem dL_isCounted_13 : decode cL_isCounted 13 = .ok (.invokestatic 132, 3) := by decide +kernel
theorem dL_isCounted_16 : decode cL_isCounted 16 = .ok (.iadd, 1) := by decide +kernel
theorem dL_isCounted_17 : decode cL_isCounted 17 = .ok (.istore_n 1, 1) := by decide +kernel
theorem dL_isCounted_18 : decode cL_isCounted 18 = .ok (.iinc 2 1, 3) := by decide +kernel
theorem dL_isCounted_21 : decode cL_isCounted 21 = .ok (.goto (-17), 3) := by decide +kernel
theorem dL_isCounted_24 : decode cL_isCounted 24 = .ok (.iconst 0, 1) := by decide +kernel
theorem dL_isCounted_25 : decode cL_isCounted 25 = .ok (.istore_n 2, 1) := by decide +kernel
theorem dL_isCounted_26 : decode cL_isCounted 26 = .ok (.iconst 0, 1) := by decide +kernel
theorem dL_isCounted_27 : decode cL_isCounted 27 = .ok (.istore_n 3, 1) := by decide +kernel
theorem dL_isCounted_28 : decode cL_isCounted 28 = .ok (.iload_n 3, 1) := by decide +kernel
theorem dL_isCounted_29 : decode cL_isCounted 29 = .ok (.aload_n 0, 1) := by decide +kernel
theorem dL_isCounted_30 : decode cL_isCounted 30 = .ok (.bipush 6, 2) := by decide +kernel
theorem dL_isCounted_32 : decode cL_isCounted 32 = .ok (.invokestatic 134, 3) := by decide +kernel
theorem dL_isCounted_35 : decode cL_isCounted 35 = .ok (.if_icmp .ge 35, 3) := by decide +kernel
theorem dL_isCounted_38 : decode cL_isCounted 38 = .ok (.iload_n 2, 1) := by decide +kernel
theorem dL_isCounted_39 : decode cL_isCounted 39 = .ok (.aload_n 0, 1) := by decide +kernel
theorem dL_isCounted_40 : decode cL_isCounted 40 = .ok (.iload_n 3, 1) := by decide +kernel
theorem dL_isCounted_41 : decode cL_isCounted 41 = .ok (.iconst 4, 1) := by decide +kernel
theorem dL_isCounted_42 : decode cL_isCounted 42 = .ok (.invokestatic 136, 3) := by decide +kernel
theorem dL_isCounted_45 : decode cL_isCounted 45 = .ok (.iadd, 1) := by decide +kernel
theorem dL_isCounted_46 : decode cL_isCounted 46 = .ok (.istore_n 2, 1) := by decide +kernel
theorem dL_isCounted_47 : decode cL_isCounted 47 = .ok (.aload_n 0, 1) := by decide +kernel
theorem dL_isCounted_48 : decode cL_isCounted 48 = .ok (.iload_n 3, 1) := by decide +kernel
theorem dL_isCounted_49 : decode cL_isCounted 49 = .ok (.iconst 3, 1) := by decide +kernel
theorem dL_isCounted_50 : decode cL_isCounted 50 = .ok (.invokestatic 136, 3) := by decide +kernel
theorem dL_isCounted_53 : decode cL_isCounted 53 = .ok (.aload_n 0, 1) := by decide +kernel
theorem dL_isCounted_54 : decode cL_isCounted 54 = .ok (.iload_n 3, 1) := by decide +kernel
theorem dL_isCounted_55 : decode cL_isCounted 55 = .ok (.iconst 2, 1) := by decide +kernel
theorem dL_isCounted_56 : decode cL_isCounted 56 = .ok (.invokestatic 136, 3) := by decide +kernel
theorem dL_isCounted_59 : decode cL_isCounted 59 = .ok (.if_icmp .le 5, 3) := by decide +kernel
theorem dL_isCounted_62 : decode cL_isCounted 62 = .ok (.iconst 0, 1) := by decide +kernel
theorem dL_isCounted_63 : decode cL_isCounted 63 = .ok (.ireturn, 1) := by decide +kernel
theorem dL_isCounted_64 : decode cL_isCounted 64 = .ok (.iinc 3 1, 3) := by decide +kernel
theorem dL_isCounted_67 : decode cL_isCounted 67 = .ok (.goto (-39), 3) := by decide +kernel
theorem dL_isCounted_70 : decode cL_isCounted 70 = .ok (.iload_n 1, 1) := by decide +kernel
theorem dL_isCounted_71 : decode cL_isCounted 71 = .ok (.aload_n 0, 1) := by decide +kernel
theorem dL_isCounted_72 : decode cL_isCounted 72 = .ok (.iconst 4, 1) := by decide +kernel
theorem dL_isCounted_73 : decode cL_isCounted 73 = .ok (.invokestatic 134, 3) := by decide +kernel
theorem dL_isCounted_76 : decode cL_isCounted 76 = .ok (.if_icmp .ne 47, 3) := by decide +kernel
theorem dL_isCounted_79 : decode cL_isCounted 79 = .ok (.iload_n 2, 1) := by decide +kernel
theorem dL_isCounted_80 : decode cL_isCounted 80 = .ok (.aload_n 0, 1) := by decide +kernel
theorem dL_isCounted_81 : decode cL_isCounted 81 = .ok (.iconst 3, 1) := by decide +kernel
theorem dL_isCounted_82 : decode cL_isCounted 82 = .ok (.invokestatic 134, 3) := by decide +kernel
theorem dL_isCounted_85 : decode cL_isCounted 85 = .ok (.if_icmp .ne 38, 3) := by decide +kernel
theorem dL_isCounted_88 : decode cL_isCounted 88 = .ok (.aload_n 0, 1) := by decide +kernel
theorem dL_isCounted_89 : decode cL_isCounted 89 = .ok (.iconst 1, 1) := by decide +kernel
theorem dL_isCounted_90 : decode cL_isCounted 90 = .ok (.invokestatic 134, 3) := by decide +kernel
theorem dL_isCounted_93 : decode cL_isCounted 93 = .ok (.aload_n 0, 1) := by decide +kernel
theorem dL_isCounted_94 : decode cL_isCounted 94 = .ok (.iconst 2, 1) := by decide +kernel
theorem dL_isCounted_95 : decode cL_isCounted 95 = .ok (.invokestatic 134, 3) := by decide +kernel
theorem dL_isCounted_98 : decode cL_isCounted 98 = .ok (.aload_n 0, 1) := by decide +kernel
theorem dL_isCounted_99 : decode cL_isCounted 99 = .ok (.iconst 3, 1) := by decide +kernel
theorem dL_isCounted_100 : decode cL_isCounted 100 = .ok (.invokestatic 134, 3) := by decide +kernel
theorem dL_isCounted_103 : decode cL_isCounted 103 = .ok (.iadd, 1) := by decide +kernel
theorem dL_isCounted_104 : decode cL_isCounted 104 = .ok (.aload_n 0, 1) := by decide +kernel
theorem dL_isCounted_105 : decode cL_isCounted 105 = .ok (.iconst 4, 1) := by decide +kernel
theorem dL_isCounted_106 : decode cL_isCounted 106 = .ok (.invokestatic 134, 3) := by decide +kernel
theorem dL_isCounted_109 : decode cL_isCounted 109 = .ok (.iadd, 1) := by decide +kernel
theorem dL_isCounted_110 : decode cL_isCounted 110 = .ok (.aload_n 0, 1) := by decide +kernel
theorem dL_isCounted_111 : decode cL_isCounted 111 = .ok (.iconst 5, 1) := by decide +kernel
theorem dL_isCounted_112 : decode cL_isCounted 112 = .ok (.invokestatic 134, 3) := by decide +kernel
theorem dL_isCounted_115 : decode cL_isCounted 115 = .ok (.iadd, 1) := by decide +kernel
theorem dL_isCounted_116 : decode cL_isCounted 116 = .ok (.if_icmp .ne 7, 3) := by decide +kernel
theorem dL_isCounted_119 : decode cL_isCounted 119 = .ok (.iconst 1, 1) := by decide +kernel
theorem dL_isCounted_120 : decode cL_isCounted 120 = .ok (.goto 4, 3) := by decide +kernel
theorem dL_isCounted_123 : decode cL_isCounted 123 = .ok (.iconst 0, 1) := by decide +kernel
theorem dL_isCounted_124 : decode cL_isCounted 124 = .ok (.ireturn, 1) := by decide +kernel
theorem dL_areApart_0 : decode cL_areApart 0 = .ok (.ldc 138, 2) := by decide +kernel
theorem dL_areApart_2 : decode cL_areApart 2 = .ok (.istore_n 1, 1) := by decide +kernel
theorem dL_areApart_3 : decode cL_areApart 3 = .ok (.iconst 0, 1) := by decide +kernel
theorem dL_areApart_4 : decode cL_areApart 4 = .ok (.istore_n 2, 1) := by decide +kernel
theorem dL_areApart_5 : decode cL_areApart 5 = .ok (.iload_n 2, 1) := by decide +kernel
theorem dL_areApart_6 : decode cL_areApart 6 = .ok (.aload_n 0, 1) := by decide +kernel
theorem dL_areApart_7 : decode cL_areApart 7 = .ok (.iconst 1, 1) := by decide +kernel
theorem dL_areApart_8 : decode cL_areApart 8 = .ok (.invokestatic 134, 3) := by decide +kernel
theorem dL_areApart_11 : decode cL_areApart 11 = .ok (.if_icmp .ge 86, 3) := by decide +kernel
theorem dL_areApart_14 : decode cL_areApart 14 = .ok (.aload_n 0, 1) := by decide +kernel
theorem dL_areApart_15 : decode cL_areApart 15 = .ok (.iload_n 2, 1) := by decide +kernel
theorem dL_areApart_16 : decode cL_areApart 16 = .ok (.iconst 1, 1) := by decide +kernel
theorem dL_areApart_17 : decode cL_areApart 17 = .ok (.invokestatic 139, 3) := by decide +kernel
theorem dL_areApart_20 : decode cL_areApart 20 = .ok (.ifCond .ne 71, 3) := by decide +kernel
theorem dL_areApart_23 : decode cL_areApart 23 = .ok (.aload_n 0, 1) := by decide +kernel
theorem dL_areApart_24 : decode cL_areApart 24 = .ok (.iload_n 2, 1) := by decide +kernel
theorem dL_areApart_25 : decode cL_areApart 25 = .ok (.invokestatic 125, 3) := by decide +kernel
theorem dL_areApart_28 : decode cL_areApart 28 = .ok (.istore_n 3, 1) := by decide +kernel
theorem dL_areApart_29 : decode cL_areApart 29 = .ok (.iload_n 3, 1) := by decide +kernel
theorem dL_areApart_30 : decode cL_areApart 30 = .ok (.iload_n 1, 1) := by decide +kernel
theorem dL_areApart_31 : decode cL_areApart 31 = .ok (.ldc 138, 2) := by decide +kernel
theorem dL_areApart_33 : decode cL_areApart 33 = .ok (.if_icmp .ne 7, 3) := by decide +kernel
theorem dL_areApart_36 : decode cL_areApart 36 = .ok (.iconst (-1), 1) := by decide +kernel
theorem dL_areApart_37 : decode cL_areApart 37 = .ok (.goto 11, 3) := by decide +kernel
theorem dL_areApart_40 : decode cL_areApart 40 = .ok (.iload_n 1, 1) := by decide +kernel
theorem dL_areApart_41 : decode cL_areApart 41 = .ok (.aload_n 0, 1) := by decide +kernel
theorem dL_areApart_42 : decode cL_areApart 42 = .ok (.iload_n 2, 1) := by decide +kernel
theorem dL_areApart_43 : decode cL_areApart 43 = .ok (.iconst 2, 1) := by decide +kernel
theorem dL_areApart_44 : decode cL_areApart 44 = .ok (.invokestatic 139, 3) := by decide +kernel
theorem dL_areApart_47 : decode cL_areApart 47 = .ok (.isub, 1) := by decide +kernel
theorem dL_areApart_48 : decode cL_areApart 48 = .ok (.if_icmp .ne 27, 3) := by decide +kernel
theorem dL_areApart_51 : decode cL_areApart 51 = .ok (.iload_n 1, 1) := by decide +kernel
theorem dL_areApart_52 : decode cL_areApart 52 = .ok (.aload_n 0, 1) := by decide +kernel
theorem dL_areApart_53 : decode cL_areApart 53 = .ok (.iload_n 2, 1) := by decide +kernel
theorem dL_areApart_54 : decode cL_areApart 54 = .ok (.iconst 2, 1) := by decide +kernel
theorem dL_areApart_55 : decode cL_areApart 55 = .ok (.invokestatic 139, 3) := by decide +kernel
theorem dL_areApart_58 : decode cL_areApart 58 = .ok (.if_icmp .lt 17, 3) := by decide +kernel
theorem dL_areApart_61 : decode cL_areApart 61 = .ok (.aload_n 0, 1) := by decide +kernel
theorem dL_areApart_62 : decode cL_areApart 62 = .ok (.iload_n 2, 1) := by decide +kernel
theorem dL_areApart_63 : decode cL_areApart 63 = .ok (.iconst 2, 1) := by decide +kernel
theorem dL_areApart_64 : decode cL_areApart 64 = .ok (.invokestatic 139, 3) := by decide +kernel
theorem dL_areApart_67 : decode cL_areApart 67 = .ok (.aload_n 0, 1) := by decide +kernel
theorem dL_areApart_68 : decode cL_areApart 68 = .ok (.iconst 4, 1) := by decide +kernel
theorem dL_areApart_69 : decode cL_areApart 69 = .ok (.invokestatic 141, 3) := by decide +kernel
theorem dL_areApart_72 : decode cL_areApart 72 = .ok (.if_icmp .lt 5, 3) := by decide +kernel
theorem dL_areApart_75 : decode cL_areApart 75 = .ok (.iconst 0, 1) := by decide +kernel
theorem dL_areApart_76 : decode cL_areApart 76 = .ok (.ireturn, 1) := by decide +kernel
theorem dL_areApart_77 : decode cL_areApart 77 = .ok (.aload_n 0, 1) := by decide +kernel
theorem dL_areApart_78 : decode cL_areApart 78 = .ok (.iload_n 2, 1) := by decide +kernel
theorem dL_areApart_79 : decode cL_areApart 79 = .ok (.iconst 2, 1) := by decide +kernel
theorem dL_areApart_80 : decode cL_areApart 80 = .ok (.invokestatic 139, 3) := by decide +kernel
theorem dL_areApart_83 : decode cL_areApart 83 = .ok (.aload_n 0, 1) := by decide +kernel
theorem dL_areApart_84 : decode cL_areApart 84 = .ok (.iload_n 2, 1) := by decide +kernel
theorem dL_areApart_85 : decode cL_areApart 85 = .ok (.iconst 0, 1) := by decide +kernel
theorem dL_areApart_86 : decode cL_areApart 86 = .ok (.invokestatic 139, 3) := by decide +kernel
theorem dL_areApart_89 : decode cL_areApart 89 = .ok (.isub, 1) := by decide +kernel
theorem dL_areApart_90 : decode cL_areApart 90 = .ok (.istore_n 1, 1) := by decide +kernel
theorem dL_areApart_91 : decode cL_areApart 91 = .ok (.iinc 2 1, 3) := by decide +kernel
theorem dL_areApart_94 : decode cL_areApart 94 = .ok (.goto (-89), 3) := by decide +kernel
theorem dL_areApart_97 : decode cL_areApart 97 = .ok (.iconst 1, 1) := by decide +kernel
theorem dL_areApart_98 : decode cL_areApart 98 = .ok (.ireturn, 1) := by decide +kernel
theorem dL_areAlike_0 : decode cL_areAlike 0 = .ok (.aload_n 0, 1) := by decide +kernel
theorem dL_areAlike_1 : decode cL_areAlike 1 = .ok (.invokevirtual 143, 3) := by decide +kernel
theorem dL_areAlike_4 : decode cL_areAlike 4 = .ok (.aload_n 1, 1) := by decide +kernel
theorem dL_areAlike_5 : decode cL_areAlike 5 = .ok (.invokevirtual 143, 3) := by decide +kernel
theorem dL_areAlike_8 : decode cL_areAlike 8 = .ok (.dcmp .l, 1) := by decide +kernel
theorem dL_areAlike_9 : decode cL_areAlike 9 = .ok (.ifCond .ne 29, 3) := by decide +kernel
theorem dL_areAlike_12 : decode cL_areAlike 12 = .ok (.aload_n 0, 1) := by decide +kernel
theorem dL_areAlike_13 : decode cL_areAlike 13 = .ok (.invokevirtual 115, 3) := by decide +kernel
theorem dL_areAlike_16 : decode cL_areAlike 16 = .ok (.aload_n 1, 1) := by decide +kernel
theorem dL_areAlike_17 : decode cL_areAlike 17 = .ok (.invokevirtual 115, 3) := by decide +kernel
theorem dL_areAlike_20 : decode cL_areAlike 20 = .ok (.if_icmp .ne 18, 3) := by decide +kernel
theorem dL_areAlike_23 : decode cL_areAlike 23 = .ok (.aload_n 0, 1) := by decide +kernel
theorem dL_areAlike_24 : decode cL_areAlike 24 = .ok (.invokevirtual 118, 3) := by decide +kernel
theorem dL_areAlike_27 : decode cL_areAlike 27 = .ok (.aload_n 1, 1) := by decide +kernel
theorem dL_areAlike_28 : decode cL_areAlike 28 = .ok (.invokevirtual 118, 3) := by decide +kernel
theorem dL_areAlike_31 : decode cL_areAlike 31 = .ok (.if_icmp .ne 7, 3) := by decide +kernel
theorem dL_areAlike_34 : decode cL_areAlike 34 = .ok (.iconst 1, 1) := by decide +kernel
theorem dL_areAlike_35 : decode cL_areAlike 35 = .ok (.goto 4, 3) := by decide +kernel
theorem dL_areAlike_38 : decode cL_areAlike 38 = .ok (.iconst 0, 1) := by decide +kernel
theorem dL_areAlike_39 : decode cL_areAlike 39 = .ok (.istore_n 2, 1) := by decide +kernel
theorem dL_areAlike_40 : decode cL_areAlike 40 = .ok (.iconst 0, 1) := by decide +kernel
theorem dL_areAlike_41 : decode cL_areAlike 41 = .ok (.istore_n 3, 1) := by decide +kernel
theorem dL_areAlike_42 : decode cL_areAlike 42 = .ok (.iload_n 3, 1) := by decide +kernel
theorem dL_areAlike_43 : decode cL_areAlike 43 = .ok (.bipush 15, 2) := by decide +kernel
theorem dL_areAlike_45 : decode cL_areAlike 45 = .ok (.if_icmp .ge 32, 3) := by decide +kernel
theorem dL_areAlike_48 : decode cL_areAlike 48 = .ok (.iload_n 2, 1) := by decide +kernel
theorem dL_areAlike_49 : decode cL_areAlike 49 = .ok (.ifCond .eq 20, 3) := by decide +kernel
theorem dL_areAlike_52 : decode cL_areAlike 52 = .ok (.aload_n 0, 1) := by decide +kernel
theorem dL_areAlike_53 : decode cL_areAlike 53 = .ok (.iload_n 3, 1) := by decide +kernel
theorem dL_areAlike_54 : decode cL_areAlike 54 = .ok (.invokestatic 134, 3) := by decide +kernel
theorem dL_areAlike_57 : decode cL_areAlike 57 = .ok (.aload_n 1, 1) := by decide +kernel
theorem dL_areAlike_58 : decode cL_areAlike 58 = .ok (.iload_n 3, 1) := by decide +kernel
theorem dL_areAlike_59 : decode cL_areAlike 59 = .ok (.invokestatic 134, 3) := by decide +kernel
theorem dL_areAlike_62 : decode cL_areAlike 62 = .ok (.if_icmp .ne 7, 3) := by decide +kernel
theorem dL_areAlike_65 : decode cL_areAlike 65 = .ok (.iconst 1, 1) := by decide +kernel
theorem dL_areAlike_66 : decode cL_areAlike 66 = .ok (.goto 4, 3) := by decide +kernel
theorem dL_areAlike_69 : decode cL_areAlike 69 = .ok (.iconst 0, 1) := by decide +kernel
theorem dL_areAlike_70 : decode cL_areAlike 70 = .ok (.istore_n 2, 1) := by decide +kernel
theorem dL_areAlike_71 : decode cL_areAlike 71 = .ok (.iinc 3 1, 3) := by decide +kernel
theorem dL_areAlike_74 : decode cL_areAlike 74 = .ok (.goto (-32), 3) := by decide +kernel
theorem dL_areAlike_77 : decode cL_areAlike 77 = .ok (.iconst 0, 1) := by decide +kernel
theorem dL_areAlike_78 : decode cL_areAlike 78 = .ok (.istore_n 3, 1) := by decide +kernel
theorem dL_areAlike_79 : decode cL_areAlike 79 = .ok (.iload_n 3, 1) := by decide +kernel
theorem dL_areAlike_80 : decode cL_areAlike 80 = .ok (.bipush 6, 2) := by decide +kernel
theorem dL_areAlike_82 : decode cL_areAlike 82 = .ok (.if_icmp .ge 79, 3) := by decide +kernel
theorem dL_areAlike_85 : decode cL_areAlike 85 = .ok (.iload_n 2, 1) := by decide +kernel
theorem dL_areAlike_86 : decode cL_areAlike 86 = .ok (.ifCond .eq 67, 3) := by decide +kernel
theorem dL_areAlike_89 : decode cL_areAlike 89 = .ok (.aload_n 0, 1) := by decide +kernel
theorem dL_areAlike_90 : decode cL_areAlike 90 = .ok (.iload_n 3, 1) := by decide +kernel
theorem dL_areAlike_91 : decode cL_areAlike 91 = .ok (.iconst 1, 1) := by decide +kernel
theorem dL_areAlike_92 : decode cL_areAlike 92 = .ok (.invokestatic 139, 3) := by decide +kernel
theorem dL_areAlike_95 : decode cL_areAlike 95 = .ok (.aload_n 1, 1) := by decide +kernel
theorem dL_areAlike_96 : decode cL_areAlike 96 = .ok (.iload_n 3, 1) := by decide +kernel
theorem dL_areAlike_97 : decode cL_areAlike 97 = .ok (.iconst 1, 1) := by decide +kernel
theorem dL_areAlike_98 : decode cL_areAlike 98 = .ok (.invokestatic 139, 3) := by decide +kernel
theorem dL_areAlike_101 : decode cL_areAlike 101 = .ok (.if_icmp .ne 52, 3) := by decide +kernel
theorem dL_areAlike_104 : decode cL_areAlike 104 = .ok (.aload_n 0, 1) := by decide +kernel
theorem dL_areAlike_105 : decode cL_areAlike 105 = .ok (.iload_n 3, 1) := by decide +kernel
theorem dL_areAlike_106 : decode cL_areAlike 106 = .ok (.iconst 2, 1) := by decide +kernel
theorem dL_areAlike_107 : decode cL_areAlike 107 = .ok (.invokestatic 139, 3) := by decide +kernel
theorem dL_areAlike_110 : decode cL_areAlike 110 = .ok (.aload_n 1, 1) := by decide +kernel
theorem dL_areAlike_111 : decode cL_areAlike 111 = .ok (.iload_n 3, 1) := by decide +kernel
theorem dL_areAlike_112 : decode cL_areAlike 112 = .ok (.iconst 2, 1) := by decide +kernel
theorem dL_areAlike_113 : decode cL_areAlike 113 = .ok (.invokestatic 139, 3) := by decide +kernel
theorem dL_areAlike_116 : decode cL_areAlike 116 = .ok (.if_icmp .ne 37, 3) := by decide +kernel
theorem dL_areAlike_119 : decode cL_areAlike 119 = .ok (.aload_n 0, 1) := by decide +kernel
theorem dL_areAlike_120 : decode cL_areAlike 120 = .ok (.iload_n 3, 1) := by decide +kernel
theorem dL_areAlike_121 : decode cL_areAlike 121 = .ok (.bipush 8, 2) := by decide +kernel
theorem dL_areAlike_123 : decode cL_areAlike 123 = .ok (.invokestatic 139, 3) := by decide +kernel
theorem dL_areAlike_126 : decode cL_areAlike 126 = .ok (.aload_n 1, 1) := by decide +kernel
theorem dL_areAlike_127 : decode cL_areAlike 127 = .ok (.iload_n 3, 1) := by decide +kernel
theorem dL_areAlike_128 : decode cL_areAlike 128 = .ok (.bipush 8, 2) := by decide +kernel
theorem dL_areAlike_130 : decode cL_areAlike 130 = .ok (.invokestatic 139, 3) := by decide +kernel
theorem dL_areAlike_133 : decode cL_areAlike 133 = .ok (.if_icmp .ne 20, 3) := by decide +kernel
theorem dL_areAlike_136 : decode cL_areAlike 136 = .ok (.aload_n 0, 1) := by decide +kernel
theorem dL_areAlike_137 : decode cL_areAlike 137 = .ok (.iload_n 3, 1) := by decide +kernel
theorem dL_areAlike_138 : decode cL_areAlike 138 = .ok (.invokestatic 113, 3) := by decide +kernel
theorem dL_areAlike_141 : decode cL_areAlike 141 = .ok (.aload_n 1, 1) := by decide +kernel
theorem dL_areAlike_142 : decode cL_areAlike 142 = .ok (.iload_n 3, 1) := by decide +kernel
theorem dL_areAlike_143 : decode cL_areAlike 143 = .ok (.invokestatic 113, 3) := by decide +kernel
theorem dL_areAlike_146 : decode cL_areAlike 146 = .ok (.if_icmp .ne 7, 3) := by decide +kernel
theorem dL_areAlike_149 : decode cL_areAlike 149 = .ok (.iconst 1, 1) := by decide +kernel
theorem dL_areAlike_150 : decode cL_areAlike 150 = .ok (.goto 4, 3) := by decide +kernel
theorem dL_areAlike_153 : decode cL_areAlike 153 = .ok (.iconst 0, 1) := by decide +kernel
theorem dL_areAlike_154 : decode cL_areAlike 154 = .ok (.istore_n 2, 1) := by decide +kernel
theorem dL_areAlike_155 : decode cL_areAlike 155 = .ok (.iinc 3 1, 3) := by decide +kernel
theorem dL_areAlike_158 : decode cL_areAlike 158 = .ok (.goto (-79), 3) := by decide +kernel
theorem dL_areAlike_161 : decode cL_areAlike 161 = .ok (.iload_n 2, 1) := by decide +kernel
theorem dL_areAlike_162 : decode cL_areAlike 162 = .ok (.ireturn, 1) := by decide +kernel
theorem dL_law_0 : decode cL_law 0 = .ok (.new 10, 3) := by decide +kernel
theorem dL_law_3 : decode cL_law 3 = .ok (.dup, 1) := by decide +kernel
theorem dL_law_4 : decode cL_law 4 = .ok (.invokespecial 147, 3) := by decide +kernel
theorem dL_law_7 : decode cL_law 7 = .ok (.astore_n 1, 1) := by decide +kernel
theorem dL_law_8 : decode cL_law 8 = .ok (.new 10, 3) := by decide +kernel
theorem dL_law_11 : decode cL_law 11 = .ok (.dup, 1) := by decide +kernel
theorem dL_law_12 : decode cL_law 12 = .ok (.invokespecial 147, 3) := by decide +kernel
theorem dL_law_15 : decode cL_law 15 = .ok (.astore_n 2, 1) := by decide +kernel
theorem dL_law_16 : decode cL_law 16 = .ok (.iconst 0, 1) := by decide +kernel
theorem dL_law_17 : decode cL_law 17 = .ok (.istore_n 3, 1) := by decide +kernel
theorem dL_law_18 : decode cL_law 18 = .ok (.iload_n 3, 1) := by decide +kernel
theorem dL_law_19 : decode cL_law 19 = .ok (.bipush 32, 2) := by decide +kernel
theorem dL_law_21 : decode cL_law 21 = .ok (.if_icmp .ge 74, 3) := by decide +kernel
theorem dL_law_24 : decode cL_law 24 = .ok (.aload_n 0, 1) := by decide +kernel
theorem dL_law_25 : decode cL_law 25 = .ok (.iconst 2, 1) := by decide +kernel
theorem dL_law_26 : decode cL_law 26 = .ok (.iload_n 3, 1) := by decide +kernel
theorem dL_law_27 : decode cL_law 27 = .ok (.imul, 1) := by decide +kernel
theorem dL_law_28 : decode cL_law 28 = .ok (.invokestatic 148, 3) := by decide +kernel
theorem dL_law_31 : decode cL_law 31 = .ok (.istore 4, 2) := by decide +kernel
theorem dL_law_33 : decode cL_law 33 = .ok (.aload_n 0, 1) := by decide +kernel
theorem dL_law_34 : decode cL_law 34 = .ok (.iconst 2, 1) := by decide +kernel
theorem dL_law_35 : decode cL_law 35 = .ok (.iload_n 3, 1) := by decide +kernel
theorem dL_law_36 : decode cL_law 36 = .ok (.imul, 1) := by decide +kernel
theorem dL_law_37 : decode cL_law 37 = .ok (.iconst 1, 1) := by decide +kernel
theorem dL_law_38 : decode cL_law 38 = .ok (.iadd, 1) := by decide +kernel
theorem dL_law_39 : decode cL_law 39 = .ok (.invokestatic 148, 3) := by decide +kernel
theorem dL_law_42 : decode cL_law 42 = .ok (.istore 5, 2) := by decide +kernel
theorem dL_law_44 : decode cL_law 44 = .ok (.aload_n 1, 1) := by decide +kernel
theorem dL_law_45 : decode cL_law 45 = .ok (.iload 5, 2) := by decide +kernel
theorem dL_law_47 : decode cL_law 47 = .ok (.iload 4, 2) := by decide +kernel
theorem dL_law_49 : decode cL_law 49 = .ok (.invokestatic 152, 3) := by decide +kernel
theorem dL_law_52 : decode cL_law 52 = .ok (.istore 6, 2) := by decide +kernel
theorem dL_law_54 : decode cL_law 54 = .ok (.aload_n 1, 1) := by decide +kernel
theorem dL_law_55 : decode cL_law 55 = .ok (.iload 4, 2) := by decide +kernel
theorem dL_law_57 : decode cL_law 57 = .ok (.iload 5, 2) := by decide +kernel
theorem dL_law_59 : decode cL_law 59 = .ok (.invokestatic 155, 3) := by decide +kernel
theorem dL_law_62 : decode cL_law 62 = .ok (.aload_n 2, 1) := by decide +kernel
theorem dL_law_63 : decode cL_law 63 = .ok (.iload 4, 2) := by decide +kernel
theorem dL_law_65 : decode cL_law 65 = .ok (.iload 5, 2) := by decide +kernel
theorem dL_law_67 : decode cL_law 67 = .ok (.invokestatic 155, 3) := by decide +kernel
theorem dL_law_70 : decode cL_law 70 = .ok (.if_icmp .ne 17, 3) := by decide +kernel
theorem dL_law_73 : decode cL_law 73 = .ok (.aload_n 1, 1) := by decide +kernel
theorem dL_law_74 : decode cL_law 74 = .ok (.invokestatic 158, 3) := by decide +kernel
theorem dL_law_77 : decode cL_law 77 = .ok (.ifCond .eq 10, 3) := by decide +kernel
theorem dL_law_80 : decode cL_law 80 = .ok (.aload_n 1, 1) := by decide +kernel
theorem dL_law_81 : decode cL_law 81 = .ok (.invokestatic 162, 3) := by decide +kernel
theorem dL_law_84 : decode cL_law 84 = .ok (.ifCond .ne 5, 3) := by decide +kernel
theorem dL_law_87 : decode cL_law 87 = .ok (.iconst 0, 1) := by decide +kernel
theorem dL_law_88 : decode cL_law 88 = .ok (.ireturn, 1) := by decide +kernel
theorem dL_law_89 : decode cL_law 89 = .ok (.iinc 3 1, 3) := by decide +kernel
theorem dL_law_92 : decode cL_law 92 = .ok (.goto (-74), 3) := by decide +kernel
theorem dL_law_95 : decode cL_law 95 = .ok (.aload_n 1, 1) := by decide +kernel
theorem dL_law_96 : decode cL_law 96 = .ok (.aload_n 2, 1) := by decide +kernel
theorem dL_law_97 : decode cL_law 97 = .ok (.invokestatic 165, 3) := by decide +kernel
theorem dL_law_100 : decode cL_law 100 = .ok (.ireturn, 1) := by decide +kernel
