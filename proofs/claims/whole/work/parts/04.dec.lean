theorem dX0_init_0 : decode cX0_init 0 = .ok (.aload_n 0, 1) := by decide +kernel
theorem dX0_init_1 : decode cX0_init 1 = .ok (.invokespecial 3, 3) := by decide +kernel
theorem dX0_init_4 : decode cX0_init 4 = .ok (.return_, 1) := by decide +kernel
theorem dX0_begin_0 : decode cX0_begin 0 = .ok (.aload_n 0, 1) := by decide +kernel
theorem dX0_begin_1 : decode cX0_begin 1 = .ok (.iload_n 1, 1) := by decide +kernel
theorem dX0_begin_2 : decode cX0_begin 2 = .ok (.putfield 9, 3) := by decide +kernel
theorem dX0_begin_5 : decode cX0_begin 5 = .ok (.aload_n 0, 1) := by decide +kernel
theorem dX0_begin_6 : decode cX0_begin 6 = .ok (.iload_n 2, 1) := by decide +kernel
theorem dX0_begin_7 : decode cX0_begin 7 = .ok (.putfield 15, 3) := by decide +kernel
theorem dX0_begin_10 : decode cX0_begin 10 = .ok (.aload_n 0, 1) := by decide +kernel
theorem dX0_begin_11 : decode cX0_begin 11 = .ok (.iload_n 3, 1) := by decide +kernel
theorem dX0_begin_12 : decode cX0_begin 12 = .ok (.putfield 18, 3) := by decide +kernel
theorem dX0_begin_15 : decode cX0_begin 15 = .ok (.aload_n 0, 1) := by decide +kernel
theorem dX0_begin_16 : decode cX0_begin 16 = .ok (.iconst 0, 1) := by decide +kernel
theorem dX0_begin_17 : decode cX0_begin 17 = .ok (.putfield 21, 3) := by decide +kernel
theorem dX0_begin_20 : decode cX0_begin 20 = .ok (.aload_n 0, 1) := by decide +kernel
theorem dX0_begin_21 : decode cX0_begin 21 = .ok (.iconst 0, 1) := by decide +kernel
theorem dX0_begin_22 : decode cX0_begin 22 = .ok (.putfield 24, 3) := by decide +kernel
theorem dX0_begin_25 : decode cX0_begin 25 = .ok (.return_, 1) := by decide +kernel
theorem dX0_copyFrom_0 : decode cX0_copyFrom 0 = .ok (.aload_n 0, 1) := by decide +kernel
theorem dX0_copyFrom_1 : decode cX0_copyFrom 1 = .ok (.aload_n 1, 1) := by decide +kernel
theorem dX0_copyFrom_2 : decode cX0_copyFrom 2 = .ok (.getfield 9, 3) := by decide +kernel
theorem dX0_copyFrom_5 : decode cX0_copyFrom 5 = .ok (.putfield 9, 3) := by decide +kernel
theorem dX0_copyFrom_8 : decode cX0_copyFrom 8 = .ok (.aload_n 0, 1) := by decide +kernel
theorem dX0_copyFrom_9 : decode cX0_copyFrom 9 = .ok (.aload_n 1, 1) := by decide +kernel
theorem dX0_copyFrom_10 : decode cX0_copyFrom 10 = .ok (.getfield 15, 3) := by decide +kernel
theorem dX0_copyFrom_13 : decode cX0_copyFrom 13 = .ok (.putfield 15, 3) := by decide +kernel
theorem dX0_copyFrom_16 : decode cX0_copyFrom 16 = .ok (.aload_n 0, 1) := by decide +kernel
theorem dX0_copyFrom_17 : decode cX0_copyFrom 17 = .ok (.aload_n 1, 1) := by decide +kernel
theorem dX0_copyFrom_18 : decode cX0_copyFrom 18 = .ok (.getfield 18, 3) := by decide +kernel
theorem dX0_copyFrom_21 : decode cX0_copyFrom 21 = .ok (.putfield 18, 3) := by decide +kernel
theorem dX0_copyFrom_24 : decode cX0_copyFrom 24 = .ok (.aload_n 0, 1) := by decide +kernel
theorem dX0_copyFrom_25 : decode cX0_copyFrom 25 = .ok (.aload_n 1, 1) := by decide +kernel
theorem dX0_copyFrom_26 : decode cX0_copyFrom 26 = .ok (.getfield 21, 3) := by decide +kernel
theorem dX0_copyFrom_29 : decode cX0_copyFrom 29 = .ok (.putfield 21, 3) := by decide +kernel
theorem dX0_copyFrom_32 : decode cX0_copyFrom 32 = .ok (.aload_n 0, 1) := by decide +kernel
theorem dX0_copyFrom_33 : decode cX0_copyFrom 33 = .ok (.aload_n 1, 1) := by decide +kernel
theorem dX0_copyFrom_34 : decode cX0_copyFrom 34 = .ok (.getfield 24, 3) := by decide +kernel
theorem dX0_copyFrom_37 : decode cX0_copyFrom 37 = .ok (.putfield 24, 3) := by decide +kernel
theorem dX0_copyFrom_40 : decode cX0_copyFrom 40 = .ok (.return_, 1) := by decide +kernel
theorem dX0_covers_0 : decode cX0_covers 0 = .ok (.iload_n 1, 1) := by decide +kernel
theorem dX0_covers_1 : decode cX0_covers 1 = .ok (.aload_n 0, 1) := by decide +kernel
theorem dX0_covers_2 : decode cX0_covers 2 = .ok (.getfield 9, 3) := by decide +kernel
theorem dX0_covers_5 : decode cX0_covers 5 = .ok (.if_icmp .lt 20, 3) := by decide +kernel
theorem dX0_covers_8 : decode cX0_covers 8 = .ok (.iload_n 1, 1) := by decide +kernel
theorem dX0_covers_9 : decode cX0_covers 9 = .ok (.aload_n 0, 1) := by decide +kernel
theorem dX0_covers_10 : decode cX0_covers 10 = .ok (.getfield 9, 3) := by decide +kernel
theorem dX0_covers_13 : decode cX0_covers 13 = .ok (.aload_n 0, 1) := by decide +kernel
theorem dX0_covers_14 : decode cX0_covers 14 = .ok (.getfield 15, 3) := by decide +kernel
theorem dX0_covers_17 : decode cX0_covers 17 = .ok (.iadd, 1) := by decide +kernel
theorem dX0_covers_18 : decode cX0_covers 18 = .ok (.if_icmp .ge 7, 3) := by decide +kernel
theorem dX0_covers_21 : decode cX0_covers 21 = .ok (.iconst 1, 1) := by decide +kernel
theorem dX0_covers_22 : decode cX0_covers 22 = .ok (.goto 4, 3) := by decide +kernel
theorem dX0_covers_25 : decode cX0_covers 25 = .ok (.iconst 0, 1) := by decide +kernel
theorem dX0_covers_26 : decode cX0_covers 26 = .ok (.ireturn, 1) := by decide +kernel
theorem dX0_takes_0 : decode cX0_takes 0 = .ok (.aload_n 0, 1) := by decide +kernel
theorem dX0_takes_1 : decode cX0_takes 1 = .ok (.getfield 21, 3) := by decide +kernel
theorem dX0_takes_4 : decode cX0_takes 4 = .ok (.aload_n 0, 1) := by decide +kernel
theorem dX0_takes_5 : decode cX0_takes 5 = .ok (.getfield 18, 3) := by decide +kernel
theorem dX0_takes_8 : decode cX0_takes 8 = .ok (.if_icmp .lt 5, 3) := by decide +kernel
theorem dX0_takes_11 : decode cX0_takes 11 = .ok (.iconst 0, 1) := by decide +kernel
theorem dX0_takes_12 : decode cX0_takes 12 = .ok (.ireturn, 1) := by decide +kernel
theorem dX0_takes_13 : decode cX0_takes 13 = .ok (.aload_n 0, 1) := by decide +kernel
theorem dX0_takes_14 : decode cX0_takes 14 = .ok (.dup, 1) := by decide +kernel
theorem dX0_takes_15 : decode cX0_takes 15 = .ok (.getfield 21, 3) := by decide +kernel
theorem dX0_takes_18 : decode cX0_takes 18 = .ok (.iconst 1, 1) := by decide +kernel
theorem dX0_takes_19 : decode cX0_takes 19 = .ok (.iadd, 1) := by decide +kernel
theorem dX0_takes_20 : decode cX0_takes 20 = .ok (.putfield 21, 3) := by decide +kernel
theorem dX0_takes_23 : decode cX0_takes 23 = .ok (.aload_n 0, 1) := by decide +kernel
theorem dX0_takes_24 : decode cX0_takes 24 = .ok (.dup, 1) := by decide +kernel
theorem dX0_takes_25 : decode cX0_takes 25 = .ok (.getfield 24, 3) := by decide +kernel
theorem dX0_takes_28 : decode cX0_takes 28 = .ok (.iconst 1, 1) := by decide +kernel
theorem dX0_takes_29 : decode cX0_takes 29 = .ok (.iadd, 1) := by decide +kernel
theorem dX0_takes_30 : decode cX0_takes 30 = .ok (.putfield 24, 3) := by decide +kernel
theorem dX0_takes_33 : decode cX0_takes 33 = .ok (.iconst 1, 1) := by decide +kernel
theorem dX0_takes_34 : decode cX0_takes 34 = .ok (.ireturn, 1) := by decide +kernel
theorem dX0_property_0 : decode cX0_property 0 = .ok (.iload_n 1, 1) := by decide +kernel
theorem dX0_property_1 : decode cX0_property 1 = .ok (.tableswitch 60 0 4 #[35, 40, 45, 50, 55], 35) := by decide +kernel
theorem dX0_property_36 : decode cX0_property 36 = .ok (.aload_n 0, 1) := by decide +kernel
theorem dX0_property_37 : decode cX0_property 37 = .ok (.getfield 9, 3) := by decide +kernel
theorem dX0_property_40 : decode cX0_property 40 = .ok (.ireturn, 1) := by decide +kernel
theorem dX0_property_41 : decode cX0_property 41 = .ok (.aload_n 0, 1) := by decide +kernel
theorem dX0_property_42 : decode cX0_property 42 = .ok (.getfield 15, 3) := by decide +kernel
theorem dX0_property_45 : decode cX0_property 45 = .ok (.ireturn, 1) := by decide +kernel
theorem dX0_property_46 : decode cX0_property 46 = .ok (.aload_n 0, 1) := by decide +kernel
theorem dX0_property_47 : decode cX0_property 47 = .ok (.getfield 18, 3) := by decide +kernel
theorem dX0_property_50 : decode cX0_property 50 = .ok (.ireturn, 1) := by decide +kernel
theorem dX0_property_51 : decode cX0_property 51 = .ok (.aload_n 0, 1) := by decide +kernel
theorem dX0_property_52 : decode cX0_property 52 = .ok (.getfield 21, 3) := by decide +kernel
theorem dX0_property_55 : decode cX0_property 55 = .ok (.ireturn, 1) := by decide +kernel
theorem dX0_property_56 : decode cX0_property 56 = .ok (.aload_n 0, 1) := by decide +kernel
theorem dX0_property_57 : decode cX0_property 57 = .ok (.getfield 24, 3) := by decide +kernel
theorem dX0_property_60 : decode cX0_property 60 = .ok (.ireturn, 1) := by decide +kernel
theorem dX0_property_61 : decode cX0_property 61 = .ok (.iconst (-1), 1) := by decide +kernel
theorem dX0_property_62 : decode cX0_property 62 = .ok (.ireturn, 1) := by decide +kernel
theorem dX1_init_0 : decode cX1_init 0 = .ok (.aload_n 0, 1) := by decide +kernel
theorem dX1_init_1 : decode cX1_init 1 = .ok (.invokespecial 3, 3) := by decide +kernel
theorem dX1_init_4 : decode cX1_init 4 = .ok (.aload_n 0, 1) := by decide +kernel
theorem dX1_init_5 : decode cX1_init 5 = .ok (.sipush 3000, 3) := by decide +kernel
theorem dX1_init_8 : decode cX1_init 8 = .ok (.newarray .int, 2) := by decide +kernel
theorem dX1_init_10 : decode cX1_init 10 = .ok (.putfield 9, 3) := by decide +kernel
theorem dX1_init_13 : decode cX1_init 13 = .ok (.return_, 1) := by decide +kernel
theorem dX1_keep_0 : decode cX1_keep 0 = .ok (.aload_n 1, 1) := by decide +kernel
theorem dX1_keep_1 : decode cX1_keep 1 = .ok (.getfield 15, 3) := by decide +kernel
theorem dX1_keep_4 : decode cX1_keep 4 = .ok (.ifCond .lt 13, 3) := by decide +kernel
theorem dX1_keep_7 : decode cX1_keep 7 = .ok (.aload_n 1, 1) := by decide +kernel
theorem dX1_keep_8 : decode cX1_keep 8 = .ok (.getfield 15, 3) := by decide +kernel
theorem dX1_keep_11 : decode cX1_keep 11 = .ok (.sipush 300, 3) := by decide +kernel
theorem dX1_keep_14 : decode cX1_keep 14 = .ok (.if_icmp .lt 4, 3) := by decide +kernel
theorem dX1_keep_17 : decode cX1_keep 17 = .ok (.return_, 1) := by decide +kernel
theorem dX1_keep_18 : decode cX1_keep 18 = .ok (.aload_n 1, 1) := by decide +kernel
theorem dX1_keep_19 : decode cX1_keep 19 = .ok (.getfield 15, 3) := by decide +kernel
theorem dX1_keep_22 : decode cX1_keep 22 = .ok (.bipush 10, 2) := by decide +kernel
theorem dX1_keep_24 : decode cX1_keep 24 = .ok (.imul, 1) := by decide +kernel
theorem dX1_keep_25 : decode cX1_keep 25 = .ok (.istore_n 2, 1) := by decide +kernel
theorem dX1_keep_26 : decode cX1_keep 26 = .ok (.iconst 0, 1) := by decide +kernel
theorem dX1_keep_27 : decode cX1_keep 27 = .ok (.istore_n 3, 1) := by decide +kernel
theorem dX1_keep_28 : decode cX1_keep 28 = .ok (.iload_n 3, 1) := by decide +kernel
theorem dX1_keep_29 : decode cX1_keep 29 = .ok (.bipush 10, 2) := by decide +kernel
theorem dX1_keep_31 : decode cX1_keep 31 = .ok (.if_icmp .ge 22, 3) := by decide +kernel
theorem dX1_keep_34 : decode cX1_keep 34 = .ok (.aload_n 0, 1) := by decide +kernel
theorem dX1_keep_35 : decode cX1_keep 35 = .ok (.getfield 9, 3) := by decide +kernel
theorem dX1_keep_38 : decode cX1_keep 38 = .ok (.iload_n 2, 1) := by decide +kernel
theorem dX1_keep_39 : decode cX1_keep 39 = .ok (.iload_n 3, 1) := by decide +kernel
theorem dX1_keep_40 : decode cX1_keep 40 = .ok (.iadd, 1) := by decide +kernel
theorem dX1_keep_41 : decode cX1_keep 41 = .ok (.aload_n 1, 1) := by decide +kernel
theorem dX1_keep_42 : decode cX1_keep 42 = .ok (.iload_n 3, 1) := by decide +kernel
theorem dX1_keep_43 : decode cX1_keep 43 = .ok (.invokevirtual 21, 3) := by decide +kernel
theorem dX1_keep_46 : decode cX1_keep 46 = .ok (.iastore, 1) := by decide +kernel
theorem dX1_keep_47 : decode cX1_keep 47 = .ok (.iinc 3 1, 3) := by decide +kernel
theorem dX1_keep_50 : decode cX1_keep 50 = .ok (.goto (-22), 3) := by decide +kernel
theorem dX1_keep_53 : decode cX1_keep 53 = .ok (.return_, 1) := by decide +kernel
theorem dX1_propertyOf_0 : decode cX1_propertyOf 0 = .ok (.iload_n 1, 1) := by decide +kernel
theorem dX1_propertyOf_1 : decode cX1_propertyOf 1 = .ok (.ifCond .lt 20, 3) := by decide +kernel
theorem dX1_propertyOf_4 : decode cX1_propertyOf 4 = .ok (.iload_n 1, 1) := by decide +kernel
theorem dX1_propertyOf_5 : decode cX1_propertyOf 5 = .ok (.sipush 300, 3) := by decide +kernel
theorem dX1_propertyOf_8 : decode cX1_propertyOf 8 = .ok (.if_icmp .ge 13, 3) := by decide +kernel
theorem dX1_propertyOf_11 : decode cX1_propertyOf 11 = .ok (.iload_n 2, 1) := by decide +kernel
theorem dX1_propertyOf_12 : decode cX1_propertyOf 12 = .ok (.ifCond .lt 9, 3) := by decide +kernel
theorem dX1_propertyOf_15 : decode cX1_propertyOf 15 = .ok (.iload_n 2, 1) := by decide +kernel
theorem dX1_propertyOf_16 : decode cX1_propertyOf 16 = .ok (.bipush 10, 2) := by decide +kernel
theorem dX1_propertyOf_18 : decode cX1_propertyOf 18 = .ok (.if_icmp .lt 5, 3) := by decide +kernel
theorem dX1_propertyOf_21 : decode cX1_propertyOf 21 = .ok (.iconst (-1), 1) := by decide +kernel
theorem dX1_propertyOf_22 : decode cX1_propertyOf 22 = .ok (.ireturn, 1) := by decide +kernel
theorem dX1_propertyOf_23 : decode cX1_propertyOf 23 = .ok (.aload_n 0, 1) := by decide +kernel
theorem dX1_propertyOf_24 : decode cX1_propertyOf 24 = .ok (.getfield 9, 3) := by decide +kernel
theorem dX1_propertyOf_27 : decode cX1_propertyOf 27 = .ok (.iload_n 1, 1) := by decide +kernel
theorem dX1_propertyOf_28 : decode cX1_propertyOf 28 = .ok (.bipush 10, 2) := by decide +kernel
theorem dX1_propertyOf_30 : decode cX1_propertyOf 30 = .ok (.imul, 1) := by decide +kernel
theorem dX1_propertyOf_31 : decode cX1_propertyOf 31 = .ok (.iload_n 2, 1) := by decide +kernel
theorem dX1_propertyOf_32 : decode cX1_propertyOf 32 = .ok (.iadd, 1) := by decide +kernel
theorem dX1_propertyOf_33 : decode cX1_propertyOf 33 = .ok (.iaload, 1) := by decide +kernel
theorem dX1_propertyOf_34 : decode cX1_propertyOf 34 = .ok (.ireturn, 1) := by decide +kernel
theorem dX2_init_0 : decode cX2_init 0 = .ok (.aload_n 0, 1) := by decide +kernel
theorem dX2_init_1 : decode cX2_init 1 = .ok (.invokespecial 3, 3) := by decide +kernel
theorem dX2_init_4 : decode cX2_init 4 = .ok (.aload_n 0, 1) := by decide +kernel
theorem dX2_init_5 : decode cX2_init 5 = .ok (.iconst (-1), 1) := by decide +kernel
theorem dX2_init_6 : decode cX2_init 6 = .ok (.putfield 9, 3) := by decide +kernel
theorem dX2_init_9 : decode cX2_init 9 = .ok (.aload_n 0, 1) := by decide +kernel
theorem dX2_init_10 : decode cX2_init 10 = .ok (.iconst (-1), 1) := by decide +kernel
theorem dX2_init_11 : decode cX2_init 11 = .ok (.putfield 15, 3) := by decide +kernel
theorem dX2_init_14 : decode cX2_init 14 = .ok (.return_, 1) := by decide +kernel
theorem dX2_begin_0 : decode cX2_begin 0 = .ok (.aload_n 0, 1) := by decide +kernel
theorem dX2_begin_1 : decode cX2_begin 1 = .ok (.iload_n 1, 1) := by decide +kernel
theorem dX2_begin_2 : decode cX2_begin 2 = .ok (.putfield 18, 3) := by decide +kernel
theorem dX2_begin_5 : decode cX2_begin 5 = .ok (.aload_n 0, 1) := by decide +kernel
theorem dX2_begin_6 : decode cX2_begin 6 = .ok (.iload_n 2, 1) := by decide +kernel
theorem dX2_begin_7 : decode cX2_begin 7 = .ok (.putfield 21, 3) := by decide +kernel
theorem dX2_begin_10 : decode cX2_begin 10 = .ok (.aload_n 0, 1) := by decide +kernel
theorem dX2_begin_11 : decode cX2_begin 11 = .ok (.iconst 0, 1) := by decide +kernel
theorem dX2_begin_12 : decode cX2_begin 12 = .ok (.putfield 24, 3) := by decide +kernel
theorem dX2_begin_15 : decode cX2_begin 15 = .ok (.aload_n 0, 1) := by decide +kernel
theorem dX2_begin_16 : decode cX2_begin 16 = .ok (.iconst 0, 1) := by decide +kernel
theorem dX2_begin_17 : decode cX2_begin 17 = .ok (.putfield 27, 3) := by decide +kernel
theorem dX2_begin_20 : decode cX2_begin 20 = .ok (.aload_n 0, 1) := by decide +kernel
theorem dX2_begin_21 : decode cX2_begin 21 = .ok (.iconst (-1), 1) := by decide +kernel
theorem dX2_begin_22 : decode cX2_begin 22 = .ok (.putfield 9, 3) := by decide +kernel
theorem dX2_begin_25 : decode cX2_begin 25 = .ok (.aload_n 0, 1) := by decide +kernel
theorem dX2_begin_26 : decode cX2_begin 26 = .ok (.iconst 0, 1) := by decide +kernel
theorem dX2_begin_27 : decode cX2_begin 27 = .ok (.putfield 30, 3) := by decide +kernel
theorem dX2_begin_30 : decode cX2_begin 30 = .ok (.aload_n 0, 1) := by decide +kernel
theorem dX2_begin_31 : decode cX2_begin 31 = .ok (.iconst 0, 1) := by decide +kernel
theorem dX2_begin_32 : decode cX2_begin 32 = .ok (.putfield 34, 3) := by decide +kernel
theorem dX2_begin_35 : decode cX2_begin 35 = .ok (.aload_n 0, 1) := by decide +kernel
theorem dX2_begin_36 : decode cX2_begin 36 = .ok (.iconst 0, 1) := by decide +kernel
theorem dX2_begin_37 : decode cX2_begin 37 = .ok (.putfield 37, 3) := by decide +kernel
theorem dX2_begin_40 : decode cX2_begin 40 = .ok (.aload_n 0, 1) := by decide +kernel
theorem dX2_begin_41 : decode cX2_begin 41 = .ok (.iconst 0, 1) := by decide +kernel
theorem dX2_begin_42 : decode cX2_begin 42 = .ok (.putfield 40, 3) := by decide +kernel
theorem dX2_begin_45 : decode cX2_begin 45 = .ok (.aload_n 0, 1) := by decide +kernel
theorem dX2_begin_46 : decode cX2_begin 46 = .ok (.iconst 0, 1) := by decide +kernel
theorem dX2_begin_47 : decode cX2_begin 47 = .ok (.putfield 43, 3) := by decide +kernel
theorem dX2_begin_50 : decode cX2_begin 50 = .ok (.aload_n 0, 1) := by decide +kernel
theorem dX2_begin_51 : decode cX2_begin 51 = .ok (.iconst 0, 1) := by decide +kernel
theorem dX2_begin_52 : decode cX2_begin 52 = .ok (.putfield 46, 3) := by decide +kernel
theorem dX2_begin_55 : decode cX2_begin 55 = .ok (.aload_n 0, 1) := by decide +kernel
theorem dX2_begin_56 : decode cX2_begin 56 = .ok (.iconst (-1), 1) := by decide +kernel
theorem dX2_begin_57 : decode cX2_begin 57 = .ok (.putfield 15, 3) := by decide +kernel
theorem dX2_begin_60 : decode cX2_begin 60 = .ok (.return_, 1) := by decide +kernel
theorem dX2_copyFrom_0 : decode cX2_copyFrom 0 = .ok (.aload_n 0, 1) := by decide +kernel
theorem dX2_copyFrom_1 : decode cX2_copyFrom 1 = .ok (.aload_n 1, 1) := by decide +kernel
theorem dX2_copyFrom_2 : decode cX2_copyFrom 2 = .ok (.getfield 18, 3) := by decide +kernel
theorem dX2_copyFrom_5 : decode cX2_copyFrom 5 = .ok (.putfield 18, 3) := by decide +kernel
theorem dX2_copyFrom_8 : decode cX2_copyFrom 8 = .ok (.aload_n 0, 1) := by decide +kernel
theorem dX2_copyFrom_9 : decode cX2_copyFrom 9 = .ok (.aload_n 1, 1) := by decide +kernel
theorem dX2_copyFrom_10 : decode cX2_copyFrom 10 = .ok (.getfield 21, 3) := by decide +kernel
theorem dX2_copyFrom_13 : decode cX2_copyFrom 13 = .ok (.putfield 21, 3) := by decide +kernel
theorem dX2_copyFrom_16 : decode cX2_copyFrom 16 = .ok (.aload_n 0, 1) := by decide +kernel
theorem dX2_copyFrom_17 : decode cX2_copyFrom 17 = .ok (.aload_n 1, 1) := by decide +kernel
theorem dX2_copyFrom_18 : decode cX2_copyFrom 18 = .ok (.getfield 24, 3) := by decide +kernel
theorem dX2_copyFrom_21 : decode cX2_copyFrom 21 = .ok (.putfield 24, 3) := by decide +kernel
theorem dX2_copyFrom_24 : decode cX2_copyFrom 24 = .ok (.aload_n 0, 1) := by decide +kernel
theorem dX2_copyFrom_25 : decode cX2_copyFrom 25 = .ok (.aload_n 1, 1) := by decide +kernel
theorem dX2_copyFrom_26 : decode cX2_copyFrom 26 = .ok (.getfield 27, 3) := by decide +kernel
theorem dX2_copyFrom_29 : decode cX2_copyFrom 29 = .ok (.putfield 27, 3) := by decide +kernel
theorem dX2_copyFrom_32 : decode cX2_copyFrom 32 = .ok (.aload_n 0, 1) := by decide +kernel
theorem dX2_copyFrom_33 : decode cX2_copyFrom 33 = .ok (.aload_n 1, 1) := by decide +kernel
theorem dX2_copyFrom_34 : decode cX2_copyFrom 34 = .ok (.getfield 9, 3) := by decide +kernel
theorem dX2_copyFrom_37 : decode cX2_copyFrom 37 = .ok (.putfield 9, 3) := by decide +kernel
theorem dX2_copyFrom_40 : decode cX2_copyFrom 40 = .ok (.aload_n 0, 1) := by decide +kernel
theorem dX2_copyFrom_41 : decode cX2_copyFrom 41 = .ok (.aload_n 1, 1) := by decide +kernel
theorem dX2_copyFrom_42 : decode cX2_copyFrom 42 = .ok (.getfield 30, 3) := by decide +kernel
theorem dX2_copyFrom_45 : decode cX2_copyFrom 45 = .ok (.putfield 30, 3) := by decide +kernel
theorem dX2_copyFrom_48 : decode cX2_copyFrom 48 = .ok (.aload_n 0, 1) := by decide +kernel
theorem dX2_copyFrom_49 : decode cX2_copyFrom 49 = .ok (.aload_n 1, 1) := by decide +kernel
theorem dX2_copyFrom_50 : decode cX2_copyFrom 50 = .ok (.getfield 34, 3) := by decide +kernel
theorem dX2_copyFrom_53 : decode cX2_copyFrom 53 = .ok (.putfield 34, 3) := by decide +kernel
theorem dX2_copyFrom_56 : decode cX2_copyFrom 56 = .ok (.aload_n 0, 1) := by decide +kernel
theorem dX2_copyFrom_57 : decode cX2_copyFrom 57 = .ok (.aload_n 1, 1) := by decide +kernel
theorem dX2_copyFrom_58 : decode cX2_copyFrom 58 = .ok (.getfield 37, 3) := by decide +kernel
theorem dX2_copyFrom_61 : decode cX2_copyFrom 61 = .ok (.putfield 37, 3) := by decide +kernel
theorem dX2_copyFrom_64 : decode cX2_copyFrom 64 = .ok (.aload_n 0, 1) := by decide +kernel
theorem dX2_copyFrom_65 : decode cX2_copyFrom 65 = .ok (.aload_n 1, 1) := by decide +kernel
theorem dX2_copyFrom_66 : decode cX2_copyFrom 66 = .ok (.getfield 40, 3) := by decide +kernel
theorem dX2_copyFrom_69 : decode cX2_copyFrom 69 = .ok (.putfield 40, 3) := by decide +kernel
theorem dX2_copyFrom_72 : decode cX2_copyFrom 72 = .ok (.aload_n 0, 1) := by decide +kernel
theorem dX2_copyFrom_73 : decode cX2_copyFrom 73 = .ok (.aload_n 1, 1) := by decide +kernel
theorem dX2_copyFrom_74 : decode cX2_copyFrom 74 = .ok (.getfield 43, 3) := by decide +kernel
theorem dX2_copyFrom_77 : decode cX2_copyFrom 77 = .ok (.putfield 43, 3) := by decide +kernel
theorem dX2_copyFrom_80 : decode cX2_copyFrom 80 = .ok (.aload_n 0, 1) := by decide +kernel
theorem dX2_copyFrom_81 : decode cX2_copyFrom 81 = .ok (.aload_n 1, 1) := by decide +kernel
theorem dX2_copyFrom_82 : decode cX2_copyFrom 82 = .ok (.getfield 46, 3) := by decide +kernel
theorem dX2_copyFrom_85 : decode cX2_copyFrom 85 = .ok (.putfield 46, 3) := by decide +kernel
theorem dX2_copyFrom_88 : decode cX2_copyFrom 88 = .ok (.aload_n 0, 1) := by decide +kernel
theorem dX2_copyFrom_89 : decode cX2_copyFrom 89 = .ok (.aload_n 1, 1) := by decide +kernel
theorem dX2_copyFrom_90 : decode cX2_copyFrom 90 = .ok (.getfield 15, 3) := by decide +kernel
theorem dX2_copyFrom_93 : decode cX2_copyFrom 93 = .ok (.putfield 15, 3) := by decide +kernel
theorem dX2_copyFrom_96 : decode cX2_copyFrom 96 = .ok (.return_, 1) := by decide +kernel
theorem dX2_tail_0 : decode cX2_tail 0 = .ok (.aload_n 0, 1) := by decide +kernel
theorem dX2_tail_1 : decode cX2_tail 1 = .ok (.getfield 24, 3) := by decide +kernel
theorem dX2_tail_4 : decode cX2_tail 4 = .ok (.aload_n 0, 1) := by decide +kernel
theorem dX2_tail_5 : decode cX2_tail 5 = .ok (.getfield 21, 3) := by decide +kernel
theorem dX2_tail_8 : decode cX2_tail 8 = .ok (.isub, 1) := by decide +kernel
theorem dX2_tail_9 : decode cX2_tail 9 = .ok (.ireturn, 1) := by decide +kernel
theorem dX2_middle_0 : decode cX2_middle 0 = .ok (.aload_n 0, 1) := by decide +kernel
theorem dX2_middle_1 : decode cX2_middle 1 = .ok (.getfield 24, 3) := by decide +kernel
theorem dX2_middle_4 : decode cX2_middle 4 = .ok (.aload_n 0, 1) := by decide +kernel
theorem dX2_middle_5 : decode cX2_middle 5 = .ok (.getfield 21, 3) := by decide +kernel
theorem dX2_middle_8 : decode cX2_middle 8 = .ok (.iconst 2, 1) := by decide +kernel
theorem dX2_middle_9 : decode cX2_middle 9 = .ok (.idiv, 1) := by decide +kernel
theorem dX2_middle_10 : decode cX2_middle 10 = .ok (.isub, 1) := by decide +kernel
theorem dX2_middle_11 : decode cX2_middle 11 = .ok (.ireturn, 1) := by decide +kernel
theorem dX2_accept_0 : decode cX2_accept 0 = .ok (.aload_n 0, 1) := by decide +kernel
theorem dX2_accept_1 : decode cX2_accept 1 = .ok (.getfield 9, 3) := by decide +kernel
theorem dX2_accept_4 : decode cX2_accept 4 = .ok (.iload_n 1, 1) := by decide +kernel
theorem dX2_accept_5 : decode cX2_accept 5 = .ok (.if_icmp .ne 24, 3) := by decide +kernel
theorem dX2_accept_8 : decode cX2_accept 8 = .ok (.iload_n 2, 1) := by decide +kernel
theorem dX2_accept_9 : decode cX2_accept 9 = .ok (.aload_n 0, 1) := by decide +kernel
theorem dX2_accept_10 : decode cX2_accept 10 = .ok (.getfield 46, 3) := by decide +kernel
theorem dX2_accept_13 : decode cX2_accept 13 = .ok (.isub, 1) := by decide +kernel
theorem dX2_accept_14 : decode cX2_accept 14 = .ok (.iload_n 3, 1) := by decide +kernel
theorem dX2_accept_15 : decode cX2_accept 15 = .ok (.if_icmp .gt 14, 3) := by decide +kernel
theorem dX2_accept_18 : decode cX2_accept 18 = .ok (.aload_n 0, 1) := by decide +kernel
theorem dX2_accept_19 : decode cX2_accept 19 = .ok (.dup, 1) := by decide +kernel
theorem dX2_accept_20 : decode cX2_accept 20 = .ok (.getfield 40, 3) := by decide +kernel
theorem dX2_accept_23 : decode cX2_accept 23 = .ok (.iconst 1, 1) := by decide +kernel
theorem dX2_accept_24 : decode cX2_accept 24 = .ok (.iadd, 1) := by decide +kernel
theorem dX2_accept_25 : decode cX2_accept 25 = .ok (.putfield 40, 3) := by decide +kernel
theorem dX2_accept_28 : decode cX2_accept 28 = .ok (.return_, 1) := by decide +kernel
theorem dX2_accept_29 : decode cX2_accept 29 = .ok (.aload_n 0, 1) := by decide +kernel
theorem dX2_accept_30 : decode cX2_accept 30 = .ok (.getfield 9, 3) := by decide +kernel
theorem dX2_accept_33 : decode cX2_accept 33 = .ok (.iconst (-1), 1) := by decide +kernel
theorem dX2_accept_34 : decode cX2_accept 34 = .ok (.if_icmp .ne 11, 3) := by decide +kernel
theorem dX2_accept_37 : decode cX2_accept 37 = .ok (.aload_n 0, 1) := by decide +kernel
theorem dX2_accept_38 : decode cX2_accept 38 = .ok (.iload_n 1, 1) := by decide +kernel
theorem dX2_accept_39 : decode cX2_accept 39 = .ok (.putfield 9, 3) := by decide +kernel
theorem dX2_accept_42 : decode cX2_accept 42 = .ok (.goto 29, 3) := by decide +kernel
theorem dX2_accept_45 : decode cX2_accept 45 = .ok (.aload_n 0, 1) := by decide +kernel
theorem dX2_accept_46 : decode cX2_accept 46 = .ok (.getfield 9, 3) := by decide +kernel
theorem dX2_accept_49 : decode cX2_accept 49 = .ok (.iload_n 1, 1) := by decide +kernel
theorem dX2_accept_50 : decode cX2_accept 50 = .ok (.if_icmp .ne 16, 3) := by decide +kernel
theorem dX2_accept_53 : decode cX2_accept 53 = .ok (.aload_n 0, 1) := by decide +kernel
theorem dX2_accept_54 : decode cX2_accept 54 = .ok (.dup, 1) := by decide +kernel
theorem dX2_accept_55 : decode cX2_accept 55 = .ok (.getfield 37, 3) := by decide +kernel
theorem dX2_accept_58 : decode cX2_accept 58 = .ok (.iconst 1, 1) := by decide +kernel
theorem dX2_accept_59 : decode cX2_accept 59 = .ok (.iadd, 1) := by decide +kernel
theorem dX2_accept_60 : decode cX2_accept 60 = .ok (.putfield 37, 3) := by decide +kernel
theorem dX2_accept_63 : decode cX2_accept 63 = .ok (.goto 8, 3) := by decide +kernel
theorem dX2_accept_66 : decode cX2_accept 66 = .ok (.aload_n 0, 1) := by decide +kernel
theorem dX2_accept_67 : decode cX2_accept 67 = .ok (.iconst 1, 1) := by decide +kernel
theorem dX2_accept_68 : decode cX2_accept 68 = .ok (.putfield 30, 3) := by decide +kernel
theorem dX2_accept_71 : decode cX2_accept 71 = .ok (.aload_n 0, 1) := by decide +kernel
theorem dX2_accept_72 : decode cX2_accept 72 = .ok (.iload_n 2, 1) := by decide +kernel
theorem dX2_accept_73 : decode cX2_accept 73 = .ok (.putfield 46, 3) := by decide +kernel
theorem dX2_accept_76 : decode cX2_accept 76 = .ok (.return_, 1) := by decide +kernel
theorem dX2_reason_0 : decode cX2_reason 0 = .ok (.aload_n 0, 1) := by decide +kernel
theorem dX2_reason_1 : decode cX2_reason 1 = .ok (.getfield 9, 3) := by decide +kernel
theorem dX2_reason_4 : decode cX2_reason 4 = .ok (.iconst (-1), 1) := by decide +kernel
theorem dX2_reason_5 : decode cX2_reason 5 = .ok (.if_icmp .ne 5, 3) := by decide +kernel
theorem dX2_reason_8 : decode cX2_reason 8 = .ok (.iconst 1, 1) := by decide +kernel
theorem dX2_reason_9 : decode cX2_reason 9 = .ok (.ireturn, 1) := by decide +kernel
theorem dX2_reason_10 : decode cX2_reason 10 = .ok (.aload_n 0, 1) := by decide +kernel
theorem dX2_reason_11 : decode cX2_reason 11 = .ok (.getfield 30, 3) := by decide +kernel
theorem dX2_reason_14 : decode cX2_reason 14 = .ok (.ifCond .eq 5, 3) := by decide +kernel
theorem dX2_reason_17 : decode cX2_reason 17 = .ok (.iconst 2, 1) := by decide +kernel
theorem dX2_reason_18 : decode cX2_reason 18 = .ok (.ireturn, 1) := by decide +kernel
theorem dX2_reason_19 : decode cX2_reason 19 = .ok (.aload_n 0, 1) := by decide +kernel
theorem dX2_reason_20 : decode cX2_reason 20 = .ok (.getfield 34, 3) := by decide +kernel
theorem dX2_reason_23 : decode cX2_reason 23 = .ok (.ifCond .eq 5, 3) := by decide +kernel
theorem dX2_reason_26 : decode cX2_reason 26 = .ok (.iconst 3, 1) := by decide +kernel
theorem dX2_reason_27 : decode cX2_reason 27 = .ok (.ireturn, 1) := by decide +kernel
theorem dX2_reason_28 : decode cX2_reason 28 = .ok (.aload_n 0, 1) := by decide +kernel
theorem dX2_reason_29 : decode cX2_reason 29 = .ok (.getfield 43, 3) := by decide +kernel
theorem dX2_reason_32 : decode cX2_reason 32 = .ok (.ifCond .ne 7, 3) := by decide +kernel
theorem dX2_reason_35 : decode cX2_reason 35 = .ok (.iconst 4, 1) := by decide +kernel
theorem dX2_reason_36 : decode cX2_reason 36 = .ok (.goto 7, 3) := by decide +kernel
theorem dX2_reason_39 : decode cX2_reason 39 = .ok (.aload_n 0, 1) := by decide +kernel
theorem dX2_reason_40 : decode cX2_reason 40 = .ok (.getfield 43, 3) := by decide +kernel
theorem dX2_reason_43 : decode cX2_reason 43 = .ok (.ireturn, 1) := by decide +kernel
theorem dX2_property_0 : decode cX2_property 0 = .ok (.iload_n 1, 1) := by decide +kernel
theorem dX2_property_1 : decode cX2_property 1 = .ok (.tableswitch 116 0 9 #[55, 60, 65, 70, 75, 88, 101, 106, 116, 111], 55) := by decide +kernel
theorem dX2_property_56 : decode cX2_property 56 = .ok (.aload_n 0, 1) := by decide +kernel
theorem dX2_property_57 : decode cX2_property 57 = .ok (.getfield 21, 3) := by decide +kernel
theorem dX2_property_60 : decode cX2_property 60 = .ok (.ireturn, 1) := by decide +kernel
theorem dX2_property_61 : decode cX2_property 61 = .ok (.aload_n 0, 1) := by decide +kernel
theorem dX2_property_62 : decode cX2_property 62 = .ok (.getfield 27, 3) := by decide +kernel
theorem dX2_property_65 : decode cX2_property 65 = .ok (.ireturn, 1) := by decide +kernel
theorem dX2_property_66 : decode cX2_property 66 = .ok (.aload_n 0, 1) := by decide +kernel
theorem dX2_property_67 : decode cX2_property 67 = .ok (.getfield 24, 3) := by decide +kernel
theorem dX2_property_70 : decode cX2_property 70 = .ok (.ireturn, 1) := by decide +kernel
theorem dX2_property_71 : decode cX2_property 71 = .ok (.aload_n 0, 1) := by decide +kernel
theorem dX2_property_72 : decode cX2_property 72 = .ok (.getfield 9, 3) := by decide +kernel
theorem dX2_property_75 : decode cX2_property 75 = .ok (.ireturn, 1) := by decide +kernel
theorem dX2_property_76 : decode cX2_property 76 = .ok (.aload_n 0, 1) := by decide +kernel
theorem dX2_property_77 : decode cX2_property 77 = .ok (.getfield 30, 3) := by decide +kernel
theorem dX2_property_80 : decode cX2_property 80 = .ok (.ifCond .eq 7, 3) := by decide +kernel
theorem dX2_property_83 : decode cX2_property 83 = .ok (.iconst 1, 1) := by decide +kernel
theorem dX2_property_84 : decode cX2_property 84 = .ok (.goto 4, 3) := by decide +kernel
theorem dX2_property_87 : decode cX2_property 87 = .ok (.iconst 0, 1) := by decide +kernel
theorem dX2_property_88 : decode cX2_property 88 = .ok (.ireturn, 1) := by decide +kernel
theorem dX2_property_89 : decode cX2_property 89 = .ok (.aload_n 0, 1) := by decide +kernel
theorem dX2_property_90 : decode cX2_property 90 = .ok (.getfield 34, 3) := by decide +kernel
theorem dX2_property_93 : decode cX2_property 93 = .ok (.ifCond .eq 7, 3) := by decide +kernel
theorem dX2_property_96 : decode cX2_property 96 = .ok (.iconst 1, 1) := by decide +kernel
theorem dX2_property_97 : decode cX2_property 97 = .ok (.goto 4, 3) := by decide +kernel
theorem dX2_property_100 : decode cX2_property 100 = .ok (.iconst 0, 1) := by decide +kernel
theorem dX2_property_101 : decode cX2_property 101 = .ok (.ireturn, 1) := by decide +kernel
theorem dX2_property_102 : decode cX2_property 102 = .ok (.aload_n 0, 1) := by decide +kernel
theorem dX2_property_103 : decode cX2_property 103 = .ok (.getfield 37, 3) := by decide +kernel
theorem dX2_property_106 : decode cX2_property 106 = .ok (.ireturn, 1) := by decide +kernel
theorem dX2_property_107 : decode cX2_property 107 = .ok (.aload_n 0, 1) := by decide +kernel
theorem dX2_property_108 : decode cX2_property 108 = .ok (.getfield 40, 3) := by decide +kernel
theorem dX2_property_111 : decode cX2_property 111 = .ok (.ireturn, 1) := by decide +kernel
theorem dX2_property_112 : decode cX2_property 112 = .ok (.aload_n 0, 1) := by decide +kernel
theorem dX2_property_113 : decode cX2_property 113 = .ok (.getfield 43, 3) := by decide +kernel
theorem dX2_property_116 : decode cX2_property 116 = .ok (.ireturn, 1) := by decide +kernel
theorem dX2_property_117 : decode cX2_property 117 = .ok (.iconst (-1), 1) := by decide +kernel
theorem dX2_property_118 : decode cX2_property 118 = .ok (.ireturn, 1) := by decide +kernel
theorem dX3_init_0 : decode cX3_init 0 = .ok (.aload_n 0, 1) := by decide +kernel
theorem dX3_init_1 : decode cX3_init 1 = .ok (.invokespecial 3, 3) := by decide +kernel
theorem dX3_init_4 : decode cX3_init 4 = .ok (.aload_n 0, 1) := by decide +kernel
theorem dX3_init_5 : decode cX3_init 5 = .ok (.bipush 30, 2) := by decide +kernel
theorem dX3_init_7 : decode cX3_init 7 = .ok (.newarray .int, 2) := by decide +kernel
theorem dX3_init_9 : decode cX3_init 9 = .ok (.putfield 9, 3) := by decide +kernel
theorem dX3_init_12 : decode cX3_init 12 = .ok (.aload_n 0, 1) := by decide +kernel
theorem dX3_init_13 : decode cX3_init 13 = .ok (.bipush 30, 2) := by decide +kernel
theorem dX3_init_15 : decode cX3_init 15 = .ok (.newarray .int, 2) := by decide +kernel
theorem dX3_init_17 : decode cX3_init 17 = .ok (.putfield 15, 3) := by decide +kernel
theorem dX3_init_20 : decode cX3_init 20 = .ok (.return_, 1) := by decide +kernel
theorem dX3_copyFrom_0 : decode cX3_copyFrom 0 = .ok (.aload_n 1, 1) := by decide +kernel
theorem dX3_copyFrom_1 : decode cX3_copyFrom 1 = .ok (.getfield 9, 3) := by decide +kernel
theorem dX3_copyFrom_4 : decode cX3_copyFrom 4 = .ok (.iconst 0, 1) := by decide +kernel
theorem dX3_copyFrom_5 : decode cX3_copyFrom 5 = .ok (.aload_n 0, 1) := by decide +kernel
theorem dX3_copyFrom_6 : decode cX3_copyFrom 6 = .ok (.getfield 9, 3) := by decide +kernel
theorem dX3_copyFrom_9 : decode cX3_copyFrom 9 = .ok (.iconst 0, 1) := by decide +kernel
theorem dX3_copyFrom_10 : decode cX3_copyFrom 10 = .ok (.bipush 30, 2) := by decide +kernel
theorem dX3_copyFrom_12 : decode cX3_copyFrom 12 = .ok (.invokestatic 18, 3) := by decide +kernel
theorem dX3_copyFrom_15 : decode cX3_copyFrom 15 = .ok (.aload_n 1, 1) := by decide +kernel
theorem dX3_copyFrom_16 : decode cX3_copyFrom 16 = .ok (.getfield 15, 3) := by decide +kernel
theorem dX3_copyFrom_19 : decode cX3_copyFrom 19 = .ok (.iconst 0, 1) := by decide +kernel
theorem dX3_copyFrom_20 : decode cX3_copyFrom 20 = .ok (.aload_n 0, 1) := by decide +kernel
theorem dX3_copyFrom_21 : decode cX3_copyFrom 21 = .ok (.getfield 15, 3) := by decide +kernel
theorem dX3_copyFrom_24 : decode cX3_copyFrom 24 = .ok (.iconst 0, 1) := by decide +kernel
theorem dX3_copyFrom_25 : decode cX3_copyFrom 25 = .ok (.bipush 30, 2) := by decide +kernel
theorem dX3_copyFrom_27 : decode cX3_copyFrom 27 = .ok (.invokestatic 18, 3) := by decide +kernel
theorem dX3_copyFrom_30 : decode cX3_copyFrom 30 = .ok (.aload_n 0, 1) := by decide +kernel
theorem dX3_copyFrom_31 : decode cX3_copyFrom 31 = .ok (.aload_n 1, 1) := by decide +kernel
theorem dX3_copyFrom_32 : decode cX3_copyFrom 32 = .ok (.getfield 24, 3) := by decide +kernel
theorem dX3_copyFrom_35 : decode cX3_copyFrom 35 = .ok (.putfield 24, 3) := by decide +kernel
theorem dX3_copyFrom_38 : decode cX3_copyFrom 38 = .ok (.return_, 1) := by decide +kernel
theorem dX3_placeFor_0 : decode cX3_placeFor 0 = .ok (.iconst 0, 1) := by decide +kernel
theorem dX3_placeFor_1 : decode cX3_placeFor 1 = .ok (.istore_n 2, 1) := by decide +kernel
theorem dX3_placeFor_2 : decode cX3_placeFor 2 = .ok (.iload_n 2, 1) := by decide +kernel
theorem dX3_placeFor_3 : decode cX3_placeFor 3 = .ok (.aload_n 0, 1) := by decide +kernel
theorem dX3_placeFor_4 : decode cX3_placeFor 4 = .ok (.getfield 24, 3) := by decide +kernel
theorem dX3_placeFor_7 : decode cX3_placeFor 7 = .ok (.if_icmp .ge 21, 3) := by decide +kernel
theorem dX3_placeFor_10 : decode cX3_placeFor 10 = .ok (.aload_n 0, 1) := by decide +kernel
theorem dX3_placeFor_11 : decode cX3_placeFor 11 = .ok (.getfield 9, 3) := by decide +kernel
theorem dX3_placeFor_14 : decode cX3_placeFor 14 = .ok (.iload_n 2, 1) := by decide +kernel
theorem dX3_placeFor_15 : decode cX3_placeFor 15 = .ok (.iaload, 1) := by decide +kernel
theorem dX3_placeFor_16 : decode cX3_placeFor 16 = .ok (.iload_n 1, 1) := by decide +kernel
theorem dX3_placeFor_17 : decode cX3_placeFor 17 = .ok (.if_icmp .lt 5, 3) := by decide +kernel
theorem dX3_placeFor_20 : decode cX3_placeFor 20 = .ok (.iload_n 2, 1) := by decide +kernel
theorem dX3_placeFor_21 : decode cX3_placeFor 21 = .ok (.ireturn, 1) := by decide +kernel
theorem dX3_placeFor_22 : decode cX3_placeFor 22 = .ok (.iinc 2 1, 3) := by decide +kernel
theorem dX3_placeFor_25 : decode cX3_placeFor 25 = .ok (.goto (-23), 3) := by decide +kernel
theorem dX3_placeFor_28 : decode cX3_placeFor 28 = .ok (.aload_n 0, 1) := by decide +kernel
theorem dX3_placeFor_29 : decode cX3_placeFor 29 = .ok (.getfield 24, 3) := by decide +kernel
theorem dX3_placeFor_32 : decode cX3_placeFor 32 = .ok (.ireturn, 1) := by decide +kernel
theorem dX3_laneOf_0 : decode cX3_laneOf 0 = .ok (.aload_n 0, 1) := by decide +kernel
theorem dX3_laneOf_1 : decode cX3_laneOf 1 = .ok (.iload_n 1, 1) := by decide +kernel
theorem dX3_laneOf_2 : decode cX3_laneOf 2 = .ok (.invokevirtual 28, 3) := by decide +kernel
theorem dX3_laneOf_5 : decode cX3_laneOf 5 = .ok (.istore_n 2, 1) := by decide +kernel
theorem dX3_laneOf_6 : decode cX3_laneOf 6 = .ok (.iload_n 2, 1) := by decide +kernel
theorem dX3_laneOf_7 : decode cX3_laneOf 7 = .ok (.aload_n 0, 1) := by decide +kernel
theorem dX3_laneOf_8 : decode cX3_laneOf 8 = .ok (.getfield 24, 3) := by decide +kernel
theorem dX3_laneOf_11 : decode cX3_laneOf 11 = .ok (.if_icmp .ge 22, 3) := by decide +kernel
theorem dX3_laneOf_14 : decode cX3_laneOf 14 = .ok (.aload_n 0, 1) := by decide +kernel
theorem dX3_laneOf_15 : decode cX3_laneOf 15 = .ok (.getfield 9, 3) := by decide +kernel
theorem dX3_laneOf_18 : decode cX3_laneOf 18 = .ok (.iload_n 2, 1) := by decide +kernel
theorem dX3_laneOf_19 : decode cX3_laneOf 19 = .ok (.iaload, 1) := by decide +kernel
theorem dX3_laneOf_20 : decode cX3_laneOf 20 = .ok (.iload_n 1, 1) := by decide +kernel
theorem dX3_laneOf_21 : decode cX3_laneOf 21 = .ok (.if_icmp .ne 12, 3) := by decide +kernel
theorem dX3_laneOf_24 : decode cX3_laneOf 24 = .ok (.aload_n 0, 1) := by decide +kernel
theorem dX3_laneOf_25 : decode cX3_laneOf 25 = .ok (.getfield 15, 3) := by decide +kernel
theorem dX3_laneOf_28 : decode cX3_laneOf 28 = .ok (.iload_n 2, 1) := by decide +kernel
theorem dX3_laneOf_29 : decode cX3_laneOf 29 = .ok (.iaload, 1) := by decide +kernel
theorem dX3_laneOf_30 : decode cX3_laneOf 30 = .ok (.goto 4, 3) := by decide +kernel
theorem dX3_laneOf_33 : decode cX3_laneOf 33 = .ok (.iconst (-1), 1) := by decide +kernel
theorem dX3_laneOf_34 : decode cX3_laneOf 34 = .ok (.ireturn, 1) := by decide +kernel
theorem dX3_put_0 : decode cX3_put 0 = .ok (.aload_n 0, 1) := by decide +kernel
theorem dX3_put_1 : decode cX3_put 1 = .ok (.iload_n 1, 1) := by decide +kernel
theorem dX3_put_2 : decode cX3_put 2 = .ok (.invokevirtual 28, 3) := by decide +kernel
theorem dX3_put_5 : decode cX3_put 5 = .ok (.istore_n 3, 1) := by decide +kernel
theorem dX3_put_6 : decode cX3_put 6 = .ok (.iload_n 3, 1) := by decide +kernel
theorem dX3_put_7 : decode cX3_put 7 = .ok (.aload_n 0, 1) := by decide +kernel
theorem dX3_put_8 : decode cX3_put 8 = .ok (.getfield 24, 3) := by decide +kernel
theorem dX3_put_11 : decode cX3_put 11 = .ok (.if_icmp .ge 13, 3) := by decide +kernel
theorem dX3_put_14 : decode cX3_put 14 = .ok (.aload_n 0, 1) := by decide +kernel
theorem dX3_put_15 : decode cX3_put 15 = .ok (.getfield 9, 3) := by decide +kernel
theorem dX3_put_18 : decode cX3_put 18 = .ok (.iload_n 3, 1) := by decide +kernel
theorem dX3_put_19 : decode cX3_put 19 = .ok (.iaload, 1) := by decide +kernel
theorem dX3_put_20 : decode cX3_put 20 = .ok (.iload_n 1, 1) := by decide +kernel
theorem dX3_put_21 : decode cX3_put 21 = .ok (.if_icmp .eq 7, 3) := by decide +kernel
theorem dX3_put_24 : decode cX3_put 24 = .ok (.iconst 1, 1) := by decide +kernel
theorem dX3_put_25 : decode cX3_put 25 = .ok (.goto 4, 3) := by decide +kernel
theorem dX3_put_28 : decode cX3_put 28 = .ok (.iconst 0, 1) := by decide +kernel
theorem dX3_put_29 : decode cX3_put 29 = .ok (.istore 4, 2) := by decide +kernel
theorem dX3_put_31 : decode cX3_put 31 = .ok (.iload 4, 2) := by decide +kernel
theorem dX3_put_33 : decode cX3_put 33 = .ok (.ifCond .eq 13, 3) := by decide +kernel
theorem dX3_put_36 : decode cX3_put 36 = .ok (.aload_n 0, 1) := by decide +kernel
theorem dX3_put_37 : decode cX3_put 37 = .ok (.getfield 24, 3) := by decide +kernel
theorem dX3_put_40 : decode cX3_put 40 = .ok (.bipush 30, 2) := by decide +kernel
theorem dX3_put_42 : decode cX3_put 42 = .ok (.if_icmp .lt 4, 3) := by decide +kernel
theorem dX3_put_45 : decode cX3_put 45 = .ok (.return_, 1) := by decide +kernel
theorem dX3_put_46 : decode cX3_put 46 = .ok (.iload 4, 2) := by decide +kernel
theorem dX3_put_48 : decode cX3_put 48 = .ok (.ifCond .eq 63, 3) := by decide +kernel
theorem dX3_put_51 : decode cX3_put 51 = .ok (.aload_n 0, 1) := by decide +kernel
theorem dX3_put_52 : decode cX3_put 52 = .ok (.getfield 24, 3) := by decide +kernel
theorem dX3_put_55 : decode cX3_put 55 = .ok (.istore 5, 2) := by decide +kernel
theorem dX3_put_57 : decode cX3_put 57 = .ok (.iload 5, 2) := by decide +kernel
theorem dX3_put_59 : decode cX3_put 59 = .ok (.iload_n 3, 1) := by decide +kernel
theorem dX3_put_60 : decode cX3_put 60 = .ok (.if_icmp .le 41, 3) := by decide +kernel
theorem dX3_put_63 : decode cX3_put 63 = .ok (.aload_n 0, 1) := by decide +kernel
theorem dX3_put_64 : decode cX3_put 64 = .ok (.getfield 9, 3) := by decide +kernel
theorem dX3_put_67 : decode cX3_put 67 = .ok (.iload 5, 2) := by decide +kernel
theorem dX3_put_69 : decode cX3_put 69 = .ok (.aload_n 0, 1) := by decide +kernel
theorem dX3_put_70 : decode cX3_put 70 = .ok (.getfield 9, 3) := by decide +kernel
theorem dX3_put_73 : decode cX3_put 73 = .ok (.iload 5, 2) := by decide +kernel
theorem dX3_put_75 : decode cX3_put 75 = .ok (.iconst 1, 1) := by decide +kernel
theorem dX3_put_76 : decode cX3_put 76 = .ok (.isub, 1) := by decide +kernel
theorem dX3_put_77 : decode cX3_put 77 = .ok (.iaload, 1) := by decide +kernel
theorem dX3_put_78 : decode cX3_put 78 = .ok (.iastore, 1) := by decide +kernel
theorem dX3_put_79 : decode cX3_put 79 = .ok (.aload_n 0, 1) := by decide +kernel
theorem dX3_put_80 : decode cX3_put 80 = .ok (.getfield 15, 3) := by decide +kernel
theorem dX3_put_83 : decode cX3_put 83 = .ok (.iload 5, 2) := by decide +kernel
theorem dX3_put_85 : decode cX3_put 85 = .ok (.aload_n 0, 1) := by decide +kernel
theorem dX3_put_86 : decode cX3_put 86 = .ok (.getfield 15, 3) := by decide +kernel
theorem dX3_put_89 : decode cX3_put 89 = .ok (.iload 5, 2) := by decide +kernel
theorem dX3_put_91 : decode cX3_put 91 = .ok (.iconst 1, 1) := by decide +kernel
theorem dX3_put_92 : decode cX3_put 92 = .ok (.isub, 1) := by decide +kernel
theorem dX3_put_93 : decode cX3_put 93 = .ok (.iaload, 1) := by decide +kernel
theorem dX3_put_94 : decode cX3_put 94 = .ok (.iastore, 1) := by decide +kernel
theorem dX3_put_95 : decode cX3_put 95 = .ok (.iinc 5 (-1), 3) := by decide +kernel
theorem dX3_put_98 : decode cX3_put 98 = .ok (.goto (-41), 3) := by decide +kernel
theorem dX3_put_101 : decode cX3_put 101 = .ok (.aload_n 0, 1) := by decide +kernel
theorem dX3_put_102 : decode cX3_put 102 = .ok (.dup, 1) := by decide +kernel
theorem dX3_put_103 : decode cX3_put 103 = .ok (.getfield 24, 3) := by decide +kernel
theorem dX3_put_106 : decode cX3_put 106 = .ok (.iconst 1, 1) := by decide +kernel
theorem dX3_put_107 : decode cX3_put 107 = .ok (.iadd, 1) := by decide +kernel
theorem dX3_put_108 : decode cX3_put 108 = .ok (.putfield 24, 3) := by decide +kernel
theorem dX3_put_111 : decode cX3_put 111 = .ok (.aload_n 0, 1) := by decide +kernel
theorem dX3_put_112 : decode cX3_put 112 = .ok (.getfield 9, 3) := by decide +kernel
theorem dX3_put_115 : decode cX3_put 115 = .ok (.iload_n 3, 1) := by decide +kernel
theorem dX3_put_116 : decode cX3_put 116 = .ok (.iload_n 1, 1) := by decide +kernel
theorem dX3_put_117 : decode cX3_put 117 = .ok (.iastore, 1) := by decide +kernel
theorem dX3_put_118 : decode cX3_put 118 = .ok (.aload_n 0, 1) := by decide +kernel
theorem dX3_put_119 : decode cX3_put 119 = .ok (.getfield 15, 3) := by decide +kernel
theorem dX3_put_122 : decode cX3_put 122 = .ok (.iload_n 3, 1) := by decide +kernel
theorem dX3_put_123 : decode cX3_put 123 = .ok (.iload_n 2, 1) := by decide +kernel
theorem dX3_put_124 : decode cX3_put 124 = .ok (.iastore, 1) := by decide +kernel
theorem dX3_put_125 : decode cX3_put 125 = .ok (.return_, 1) := by decide +kernel
theorem dX3_drop_0 : decode cX3_drop 0 = .ok (.aload_n 0, 1) := by decide +kernel
theorem dX3_drop_1 : decode cX3_drop 1 = .ok (.iload_n 1, 1) := by decide +kernel
theorem dX3_drop_2 : decode cX3_drop 2 = .ok (.invokevirtual 28, 3) := by decide +kernel
theorem dX3_drop_5 : decode cX3_drop 5 = .ok (.istore_n 2, 1) := by decide +kernel
theorem dX3_drop_6 : decode cX3_drop 6 = .ok (.iload_n 2, 1) := by decide +kernel
theorem dX3_drop_7 : decode cX3_drop 7 = .ok (.aload_n 0, 1) := by decide +kernel
theorem dX3_drop_8 : decode cX3_drop 8 = .ok (.getfield 24, 3) := by decide +kernel
theorem dX3_drop_11 : decode cX3_drop 11 = .ok (.if_icmp .ge 13, 3) := by decide +kernel
theorem dX3_drop_14 : decode cX3_drop 14 = .ok (.aload_n 0, 1) := by decide +kernel
theorem dX3_drop_15 : decode cX3_drop 15 = .ok (.getfield 9, 3) := by decide +kernel
theorem dX3_drop_18 : decode cX3_drop 18 = .ok (.iload_n 2, 1) := by decide +kernel
theorem dX3_drop_19 : decode cX3_drop 19 = .ok (.iaload, 1) := by decide +kernel
theorem dX3_drop_20 : decode cX3_drop 20 = .ok (.iload_n 1, 1) := by decide +kernel
theorem dX3_drop_21 : decode cX3_drop 21 = .ok (.if_icmp .eq 4, 3) := by decide +kernel
theorem dX3_drop_24 : decode cX3_drop 24 = .ok (.return_, 1) := by decide +kernel
theorem dX3_drop_25 : decode cX3_drop 25 = .ok (.aload_n 0, 1) := by decide +kernel
theorem dX3_drop_26 : decode cX3_drop 26 = .ok (.dup, 1) := by decide +kernel
theorem dX3_drop_27 : decode cX3_drop 27 = .ok (.getfield 24, 3) := by decide +kernel
theorem dX3_drop_30 : decode cX3_drop 30 = .ok (.iconst 1, 1) := by decide +kernel
theorem dX3_drop_31 : decode cX3_drop 31 = .ok (.isub, 1) := by decide +kernel
theorem dX3_drop_32 : decode cX3_drop 32 = .ok (.putfield 24, 3) := by decide +kernel
theorem dX3_drop_35 : decode cX3_drop 35 = .ok (.iload_n 2, 1) := by decide +kernel
theorem dX3_drop_36 : decode cX3_drop 36 = .ok (.istore_n 3, 1) := by decide +kernel
theorem dX3_drop_37 : decode cX3_drop 37 = .ok (.iload_n 3, 1) := by decide +kernel
theorem dX3_drop_38 : decode cX3_drop 38 = .ok (.aload_n 0, 1) := by decide +kernel
theorem dX3_drop_39 : decode cX3_drop 39 = .ok (.getfield 24, 3) := by decide +kernel
theorem dX3_drop_42 : decode cX3_drop 42 = .ok (.if_icmp .ge 37, 3) := by decide +kernel
theorem dX3_drop_45 : decode cX3_drop 45 = .ok (.aload_n 0, 1) := by decide +kernel
theorem dX3_drop_46 : decode cX3_drop 46 = .ok (.getfield 9, 3) := by decide +kernel
theorem dX3_drop_49 : decode cX3_drop 49 = .ok (.iload_n 3, 1) := by decide +kernel
theorem dX3_drop_50 : decode cX3_drop 50 = .ok (.aload_n 0, 1) := by decide +kernel
theorem dX3_drop_51 : decode cX3_drop 51 = .ok (.getfield 9, 3) := by decide +kernel
theorem dX3_drop_54 : decode cX3_drop 54 = .ok (.iload_n 3, 1) := by decide +kernel
theorem dX3_drop_55 : decode cX3_drop 55 = .ok (.iconst 1, 1) := by decide +kernel
theorem dX3_drop_56 : decode cX3_drop 56 = .ok (.iadd, 1) := by decide +kernel
theorem dX3_drop_57 : decode cX3_drop 57 = .ok (.iaload, 1) := by decide +kernel
theorem dX3_drop_58 : decode cX3_drop 58 = .ok (.iastore, 1) := by decide +kernel
theorem dX3_drop_59 : decode cX3_drop 59 = .ok (.aload_n 0, 1) := by decide +kernel
theorem dX3_drop_60 : decode cX3_drop 60 = .ok (.getfield 15, 3) := by decide +kernel
theorem dX3_drop_63 : decode cX3_drop 63 = .ok (.iload_n 3, 1) := by decide +kernel
theorem dX3_drop_64 : decode cX3_drop 64 = .ok (.aload_n 0, 1) := by decide +kernel
theorem dX3_drop_65 : decode cX3_drop 65 = .ok (.getfield 15, 3) := by decide +kernel
theorem dX3_drop_68 : decode cX3_drop 68 = .ok (.iload_n 3, 1) := by decide +kernel
theorem dX3_drop_69 : decode cX3_drop 69 = .ok (.iconst 1, 1) := by decide +kernel
theorem dX3_drop_70 : decode cX3_drop 70 = .ok (.iadd, 1) := by decide +kernel
theorem dX3_drop_71 : decode cX3_drop 71 = .ok (.iaload, 1) := by decide +kernel
theorem dX3_drop_72 : decode cX3_drop 72 = .ok (.iastore, 1) := by decide +kernel
theorem dX3_drop_73 : decode cX3_drop 73 = .ok (.iinc 3 1, 3) := by decide +kernel
theorem dX3_drop_76 : decode cX3_drop 76 = .ok (.goto (-39), 3) := by decide +kernel
theorem dX3_drop_79 : decode cX3_drop 79 = .ok (.return_, 1) := by decide +kernel
theorem dX3_countTo_0 : decode cX3_countTo 0 = .ok (.iconst 0, 1) := by decide +kernel
theorem dX3_countTo_1 : decode cX3_countTo 1 = .ok (.istore_n 2, 1) := by decide +kernel
theorem dX3_countTo_2 : decode cX3_countTo 2 = .ok (.iconst 0, 1) := by decide +kernel
theorem dX3_countTo_3 : decode cX3_countTo 3 = .ok (.istore_n 3, 1) := by decide +kernel
theorem dX3_countTo_4 : decode cX3_countTo 4 = .ok (.iload_n 3, 1) := by decide +kernel
theorem dX3_countTo_5 : decode cX3_countTo 5 = .ok (.aload_n 0, 1) := by decide +kernel
theorem dX3_countTo_6 : decode cX3_countTo 6 = .ok (.getfield 24, 3) := by decide +kernel
theorem dX3_countTo_9 : decode cX3_countTo 9 = .ok (.if_icmp .ge 22, 3) := by decide +kernel
theorem dX3_countTo_12 : decode cX3_countTo 12 = .ok (.aload_n 0, 1) := by decide +kernel
theorem dX3_countTo_13 : decode cX3_countTo 13 = .ok (.getfield 15, 3) := by decide +kernel
theorem dX3_countTo_16 : decode cX3_countTo 16 = .ok (.iload_n 3, 1) := by decide +kernel
theorem dX3_countTo_17 : decode cX3_countTo 17 = .ok (.iaload, 1) := by decide +kernel
theorem dX3_countTo_18 : decode cX3_countTo 18 = .ok (.iload_n 1, 1) := by decide +kernel
theorem dX3_countTo_19 : decode cX3_countTo 19 = .ok (.if_icmp .ne 6, 3) := by decide +kernel
theorem dX3_countTo_22 : decode cX3_countTo 22 = .ok (.iinc 2 1, 3) := by decide +kernel
theorem dX3_countTo_25 : decode cX3_countTo 25 = .ok (.iinc 3 1, 3) := by decide +kernel
theorem dX3_countTo_28 : decode cX3_countTo 28 = .ok (.goto (-24), 3) := by decide +kernel
theorem dX3_countTo_31 : decode cX3_countTo 31 = .ok (.iload_n 2, 1) := by decide +kernel
theorem dX3_countTo_32 : decode cX3_countTo 32 = .ok (.ireturn, 1) := by decide +kernel
theorem dX3_codeAndLane_0 : decode cX3_codeAndLane 0 = .ok (.iload_n 1, 1) := by decide +kernel
theorem dX3_codeAndLane_1 : decode cX3_codeAndLane 1 = .ok (.ifCond .lt 30, 3) := by decide +kernel
theorem dX3_codeAndLane_4 : decode cX3_codeAndLane 4 = .ok (.iload_n 1, 1) := by decide +kernel
theorem dX3_codeAndLane_5 : decode cX3_codeAndLane 5 = .ok (.aload_n 0, 1) := by decide +kernel
theorem dX3_codeAndLane_6 : decode cX3_codeAndLane 6 = .ok (.getfield 24, 3) := by decide +kernel
theorem dX3_codeAndLane_9 : decode cX3_codeAndLane 9 = .ok (.if_icmp .ge 22, 3) := by decide +kernel
theorem dX3_codeAndLane_12 : decode cX3_codeAndLane 12 = .ok (.bipush 10, 2) := by decide +kernel
theorem dX3_codeAndLane_14 : decode cX3_codeAndLane 14 = .ok (.aload_n 0, 1) := by decide +kernel
theorem dX3_codeAndLane_15 : decode cX3_codeAndLane 15 = .ok (.getfield 9, 3) := by decide +kernel
theorem dX3_codeAndLane_18 : decode cX3_codeAndLane 18 = .ok (.iload_n 1, 1) := by decide +kernel
theorem dX3_codeAndLane_19 : decode cX3_codeAndLane 19 = .ok (.iaload, 1) := by decide +kernel
theorem dX3_codeAndLane_20 : decode cX3_codeAndLane 20 = .ok (.imul, 1) := by decide +kernel
theorem dX3_codeAndLane_21 : decode cX3_codeAndLane 21 = .ok (.aload_n 0, 1) := by decide +kernel
theorem dX3_codeAndLane_22 : decode cX3_codeAndLane 22 = .ok (.getfield 15, 3) := by decide +kernel
theorem dX3_codeAndLane_25 : decode cX3_codeAndLane 25 = .ok (.iload_n 1, 1) := by decide +kernel
theorem dX3_codeAndLane_26 : decode cX3_codeAndLane 26 = .ok (.iaload, 1) := by decide +kernel
theorem dX3_codeAndLane_27 : decode cX3_codeAndLane 27 = .ok (.iadd, 1) := by decide +kernel
theorem dX3_codeAndLane_28 : decode cX3_codeAndLane 28 = .ok (.goto 4, 3) := by decide +kernel
theorem dX3_codeAndLane_31 : decode cX3_codeAndLane 31 = .ok (.iconst (-1), 1) := by decide +kernel
theorem dX3_codeAndLane_32 : decode cX3_codeAndLane 32 = .ok (.ireturn, 1) := by decide +kernel
theorem dX4_init_0 : decode cX4_init 0 = .ok (.aload_n 0, 1) := by decide +kernel
theorem dX4_init_1 : decode cX4_init 1 = .ok (.invokespecial 3, 3) := by decide +kernel
theorem dX4_init_4 : decode cX4_init 4 = .ok (.aload_n 0, 1) := by decide +kernel
theorem dX4_init_5 : decode cX4_init 5 = .ok (.bipush 80, 2) := by decide +kernel
theorem dX4_init_7 : decode cX4_init 7 = .ok (.newarray .char, 2) := by decide +kernel
theorem dX4_init_9 : decode cX4_init 9 = .ok (.putfield 9, 3) := by decide +kernel
theorem dX4_init_12 : decode cX4_init 12 = .ok (.aload_n 0, 1) := by decide +kernel
theorem dX4_init_13 : decode cX4_init 13 = .ok (.bipush 80, 2) := by decide +kernel
theorem dX4_init_15 : decode cX4_init 15 = .ok (.newarray .int, 2) := by decide +kernel
theorem dX4_init_17 : decode cX4_init 17 = .ok (.putfield 15, 3) := by decide +kernel
theorem dX4_init_20 : decode cX4_init 20 = .ok (.aload_n 0, 1) := by decide +kernel
theorem dX4_init_21 : decode cX4_init 21 = .ok (.bipush 80, 2) := by decide +kernel
theorem dX4_init_23 : decode cX4_init 23 = .ok (.newarray .int, 2) := by decide +kernel
theorem dX4_init_25 : decode cX4_init 25 = .ok (.putfield 19, 3) := by decide +kernel
theorem dX4_init_28 : decode cX4_init 28 = .ok (.aload_n 0, 1) := by decide +kernel
theorem dX4_init_29 : decode cX4_init 29 = .ok (.bipush 80, 2) := by decide +kernel
theorem dX4_init_31 : decode cX4_init 31 = .ok (.newarray .int, 2) := by decide +kernel
theorem dX4_init_33 : decode cX4_init 33 = .ok (.putfield 22, 3) := by decide +kernel
theorem dX4_init_36 : decode cX4_init 36 = .ok (.return_, 1) := by decide +kernel
theorem dX4_restart_0 : decode cX4_restart 0 = .ok (.aload_n 0, 1) := by decide +kernel
theorem dX4_restart_1 : decode cX4_restart 1 = .ok (.iconst 0, 1) := by decide +kernel
theorem dX4_restart_2 : decode cX4_restart 2 = .ok (.putfield 25, 3) := by decide +kernel
theorem dX4_restart_5 : decode cX4_restart 5 = .ok (.aload_n 0, 1) := by decide +kernel
theorem dX4_restart_6 : decode cX4_restart 6 = .ok (.iconst 0, 1) := by decide +kernel
theorem dX4_restart_7 : decode cX4_restart 7 = .ok (.putfield 29, 3) := by decide +kernel
theorem dX4_restart_10 : decode cX4_restart 10 = .ok (.return_, 1) := by decide +kernel
theorem dX4_addLeaf_0 : decode cX4_addLeaf 0 = .ok (.aload_n 0, 1) := by decide +kernel
theorem dX4_addLeaf_1 : decode cX4_addLeaf 1 = .ok (.bipush 120, 2) := by decide +kernel
theorem dX4_addLeaf_3 : decode cX4_addLeaf 3 = .ok (.iload_n 1, 1) := by decide +kernel
theorem dX4_addLeaf_4 : decode cX4_addLeaf 4 = .ok (.iconst 0, 1) := by decide +kernel
theorem dX4_addLeaf_5 : decode cX4_addLeaf 5 = .ok (.invokevirtual 32, 3) := by decide +kernel
theorem dX4_addLeaf_8 : decode cX4_addLeaf 8 = .ok (.pop, 1) := by decide +kernel
theorem dX4_addLeaf_9 : decode cX4_addLeaf 9 = .ok (.return_, 1) := by decide +kernel
theorem dX4_addCondition_0 : decode cX4_addCondition 0 = .ok (.aload_n 0, 1) := by decide +kernel
theorem dX4_addCondition_1 : decode cX4_addCondition 1 = .ok (.dup, 1) := by decide +kernel
theorem dX4_addCondition_2 : decode cX4_addCondition 2 = .ok (.getfield 29, 3) := by decide +kernel
theorem dX4_addCondition_5 : decode cX4_addCondition 5 = .ok (.iconst 1, 1) := by decide +kernel
theorem dX4_addCondition_6 : decode cX4_addCondition 6 = .ok (.iadd, 1) := by decide +kernel
theorem dX4_addCondition_7 : decode cX4_addCondition 7 = .ok (.putfield 29, 3) := by decide +kernel
theorem dX4_addCondition_10 : decode cX4_addCondition 10 = .ok (.aload_n 0, 1) := by decide +kernel
theorem dX4_addCondition_11 : decode cX4_addCondition 11 = .ok (.iload_n 1, 1) := by decide +kernel
theorem dX4_addCondition_12 : decode cX4_addCondition 12 = .ok (.i2c, 1) := by decide +kernel
theorem dX4_addCondition_13 : decode cX4_addCondition 13 = .ok (.iload_n 2, 1) := by decide +kernel
theorem dX4_addCondition_14 : decode cX4_addCondition 14 = .ok (.iload_n 3, 1) := by decide +kernel
theorem dX4_addCondition_15 : decode cX4_addCondition 15 = .ok (.invokevirtual 32, 3) := by decide +kernel
theorem dX4_addCondition_18 : decode cX4_addCondition 18 = .ok (.ireturn, 1) := by decide +kernel
theorem dX4_addNode_0 : decode cX4_addNode 0 = .ok (.aload_n 0, 1) := by decide +kernel
theorem dX4_addNode_1 : decode cX4_addNode 1 = .ok (.getfield 25, 3) := by decide +kernel
theorem dX4_addNode_4 : decode cX4_addNode 4 = .ok (.bipush 80, 2) := by decide +kernel
theorem dX4_addNode_6 : decode cX4_addNode 6 = .ok (.if_icmp .lt 5, 3) := by decide +kernel
theorem dX4_addNode_9 : decode cX4_addNode 9 = .ok (.iconst (-1), 1) := by decide +kernel
theorem dX4_addNode_10 : decode cX4_addNode 10 = .ok (.ireturn, 1) := by decide +kernel
theorem dX4_addNode_11 : decode cX4_addNode 11 = .ok (.aload_n 0, 1) := by decide +kernel
theorem dX4_addNode_12 : decode cX4_addNode 12 = .ok (.getfield 9, 3) := by decide +kernel
theorem dX4_addNode_15 : decode cX4_addNode 15 = .ok (.aload_n 0, 1) := by decide +kernel
theorem dX4_addNode_16 : decode cX4_addNode 16 = .ok (.getfield 25, 3) := by decide +kernel
theorem dX4_addNode_19 : decode cX4_addNode 19 = .ok (.iload_n 1, 1) := by decide +kernel
theorem dX4_addNode_20 : decode cX4_addNode 20 = .ok (.castore, 1) := by decide +kernel
theorem dX4_addNode_21 : decode cX4_addNode 21 = .ok (.aload_n 0, 1) := by decide +kernel
theorem dX4_addNode_22 : decode cX4_addNode 22 = .ok (.getfield 15, 3) := by decide +kernel
theorem dX4_addNode_25 : decode cX4_addNode 25 = .ok (.aload_n 0, 1) := by decide +kernel
theorem dX4_addNode_26 : decode cX4_addNode 26 = .ok (.getfield 25, 3) := by decide +kernel
theorem dX4_addNode_29 : decode cX4_addNode 29 = .ok (.iload_n 2, 1) := by decide +kernel
theorem dX4_addNode_30 : decode cX4_addNode 30 = .ok (.iastore, 1) := by decide +kernel
theorem dX4_addNode_31 : decode cX4_addNode 31 = .ok (.aload_n 0, 1) := by decide +kernel
theorem dX4_addNode_32 : decode cX4_addNode 32 = .ok (.getfield 19, 3) := by decide +kernel
theorem dX4_addNode_35 : decode cX4_addNode 35 = .ok (.aload_n 0, 1) := by decide +kernel
theorem dX4_addNode_36 : decode cX4_addNode 36 = .ok (.getfield 25, 3) := by decide +kernel
theorem dX4_addNode_39 : decode cX4_addNode 39 = .ok (.iload_n 3, 1) := by decide +kernel
theorem dX4_addNode_40 : decode cX4_addNode 40 = .ok (.iastore, 1) := by decide +kernel
theorem dX4_addNode_41 : decode cX4_addNode 41 = .ok (.aload_n 0, 1) := by decide +kernel
theorem dX4_addNode_42 : decode cX4_addNode 42 = .ok (.getfield 22, 3) := by decide +kernel
theorem dX4_addNode_45 : decode cX4_addNode 45 = .ok (.aload_n 0, 1) := by decide +kernel
theorem dX4_addNode_46 : decode cX4_addNode 46 = .ok (.getfield 25, 3) := by decide +kernel
theorem dX4_addNode_49 : decode cX4_addNode 49 = .ok (.iconst (-1), 1) := by decide +kernel
theorem dX4_addNode_50 : decode cX4_addNode 50 = .ok (.iastore, 1) := by decide +kernel
theorem dX4_addNode_51 : decode cX4_addNode 51 = .ok (.aload_n 0, 1) := by decide +kernel
theorem dX4_addNode_52 : decode cX4_addNode 52 = .ok (.dup, 1) := by decide +kernel
theorem dX4_addNode_53 : decode cX4_addNode 53 = .ok (.getfield 25, 3) := by decide +kernel
theorem dX4_addNode_56 : decode cX4_addNode 56 = .ok (.iconst 1, 1) := by decide +kernel
theorem dX4_addNode_57 : decode cX4_addNode 57 = .ok (.iadd, 1) := by decide +kernel
theorem dX4_addNode_58 : decode cX4_addNode 58 = .ok (.putfield 25, 3) := by decide +kernel
theorem dX4_addNode_61 : decode cX4_addNode 61 = .ok (.aload_n 0, 1) := by decide +kernel
theorem dX4_addNode_62 : decode cX4_addNode 62 = .ok (.getfield 25, 3) := by decide +kernel
theorem dX4_addNode_65 : decode cX4_addNode 65 = .ok (.iconst 1, 1) := by decide +kernel
theorem dX4_addNode_66 : decode cX4_addNode 66 = .ok (.isub, 1) := by decide +kernel
theorem dX4_addNode_67 : decode cX4_addNode 67 = .ok (.ireturn, 1) := by decide +kernel
theorem dX4_otherwise_0 : decode cX4_otherwise 0 = .ok (.iload_n 1, 1) := by decide +kernel
theorem dX4_otherwise_1 : decode cX4_otherwise 1 = .ok (.ifCond .lt 21, 3) := by decide +kernel
theorem dX4_otherwise_4 : decode cX4_otherwise 4 = .ok (.iload_n 1, 1) := by decide +kernel
theorem dX4_otherwise_5 : decode cX4_otherwise 5 = .ok (.aload_n 0, 1) := by decide +kernel
theorem dX4_otherwise_6 : decode cX4_otherwise 6 = .ok (.getfield 25, 3) := by decide +kernel
theorem dX4_otherwise_9 : decode cX4_otherwise 9 = .ok (.if_icmp .ge 13, 3) := by decide +kernel
theorem dX4_otherwise_12 : decode cX4_otherwise 12 = .ok (.aload_n 0, 1) := by decide +kernel
theorem dX4_otherwise_13 : decode cX4_otherwise 13 = .ok (.getfield 22, 3) := by decide +kernel
theorem dX4_otherwise_16 : decode cX4_otherwise 16 = .ok (.iload_n 1, 1) := by decide +kernel
theorem dX4_otherwise_17 : decode cX4_otherwise 17 = .ok (.aload_n 0, 1) := by decide +kernel
theorem dX4_otherwise_18 : decode cX4_otherwise 18 = .ok (.getfield 25, 3) := by decide +kernel
theorem dX4_otherwise_21 : decode cX4_otherwise 21 = .ok (.iastore, 1) := by decide +kernel
theorem dX4_otherwise_22 : decode cX4_otherwise 22 = .ok (.return_, 1) := by decide +kernel
theorem dX4_laneBy_0 : decode cX4_laneBy 0 = .ok (.iconst 0, 1) := by decide +kernel
theorem dX4_laneBy_1 : decode cX4_laneBy 1 = .ok (.istore_n 3, 1) := by decide +kernel
theorem dX4_laneBy_2 : decode cX4_laneBy 2 = .ok (.iconst 0, 1) := by decide +kernel
theorem dX4_laneBy_3 : decode cX4_laneBy 3 = .ok (.istore 4, 2) := by decide +kernel
theorem dX4_laneBy_5 : decode cX4_laneBy 5 = .ok (.iload 4, 2) := by decide +kernel
theorem dX4_laneBy_7 : decode cX4_laneBy 7 = .ok (.bipush 80, 2) := by decide +kernel
theorem dX4_laneBy_9 : decode cX4_laneBy 9 = .ok (.if_icmp .ge 80, 3) := by decide +kernel
theorem dX4_laneBy_12 : decode cX4_laneBy 12 = .ok (.iload_n 3, 1) := by decide +kernel
theorem dX4_laneBy_13 : decode cX4_laneBy 13 = .ok (.ifCond .lt 11, 3) := by decide +kernel
theorem dX4_laneBy_16 : decode cX4_laneBy 16 = .ok (.iload_n 3, 1) := by decide +kernel
theorem dX4_laneBy_17 : decode cX4_laneBy 17 = .ok (.aload_n 0, 1) := by decide +kernel
theorem dX4_laneBy_18 : decode cX4_laneBy 18 = .ok (.getfield 25, 3) := by decide +kernel
theorem dX4_laneBy_21 : decode cX4_laneBy 21 = .ok (.if_icmp .lt 5, 3) := by decide +kernel
theorem dX4_laneBy_24 : decode cX4_laneBy 24 = .ok (.iconst (-1), 1) := by decide +kernel
theorem dX4_laneBy_25 : decode cX4_laneBy 25 = .ok (.ireturn, 1) := by decide +kernel
theorem dX4_laneBy_26 : decode cX4_laneBy 26 = .ok (.aload_n 0, 1) := by decide +kernel
theorem dX4_laneBy_27 : decode cX4_laneBy 27 = .ok (.getfield 9, 3) := by decide +kernel
theorem dX4_laneBy_30 : decode cX4_laneBy 30 = .ok (.iload_n 3, 1) := by decide +kernel
theorem dX4_laneBy_31 : decode cX4_laneBy 31 = .ok (.caload, 1) := by decide +kernel
theorem dX4_laneBy_32 : decode cX4_laneBy 32 = .ok (.bipush 120, 2) := by decide +kernel
theorem dX4_laneBy_34 : decode cX4_laneBy 34 = .ok (.if_icmp .ne 10, 3) := by decide +kernel
theorem dX4_laneBy_37 : decode cX4_laneBy 37 = .ok (.aload_n 0, 1) := by decide +kernel
theorem dX4_laneBy_38 : decode cX4_laneBy 38 = .ok (.getfield 15, 3) := by decide +kernel
theorem dX4_laneBy_41 : decode cX4_laneBy 41 = .ok (.iload_n 3, 1) := by decide +kernel
theorem dX4_laneBy_42 : decode cX4_laneBy 42 = .ok (.iaload, 1) := by decide +kernel
theorem dX4_laneBy_43 : decode cX4_laneBy 43 = .ok (.ireturn, 1) := by decide +kernel
theorem dX4_laneBy_44 : decode cX4_laneBy 44 = .ok (.aload_n 0, 1) := by decide +kernel
theorem dX4_laneBy_45 : decode cX4_laneBy 45 = .ok (.getfield 9, 3) := by decide +kernel
theorem dX4_laneBy_48 : decode cX4_laneBy 48 = .ok (.iload_n 3, 1) := by decide +kernel
theorem dX4_laneBy_49 : decode cX4_laneBy 49 = .ok (.caload, 1) := by decide +kernel
theorem dX4_laneBy_50 : decode cX4_laneBy 50 = .ok (.aload_n 0, 1) := by decide +kernel
theorem dX4_laneBy_51 : decode cX4_laneBy 51 = .ok (.getfield 15, 3) := by decide +kernel
theorem dX4_laneBy_54 : decode cX4_laneBy 54 = .ok (.iload_n 3, 1) := by decide +kernel
theorem dX4_laneBy_55 : decode cX4_laneBy 55 = .ok (.iaload, 1) := by decide +kernel
theorem dX4_laneBy_56 : decode cX4_laneBy 56 = .ok (.aload_n 0, 1) := by decide +kernel
theorem dX4_laneBy_57 : decode cX4_laneBy 57 = .ok (.getfield 19, 3) := by decide +kernel
theorem dX4_laneBy_60 : decode cX4_laneBy 60 = .ok (.iload_n 3, 1) := by decide +kernel
theorem dX4_laneBy_61 : decode cX4_laneBy 61 = .ok (.iaload, 1) := by decide +kernel
theorem dX4_laneBy_62 : decode cX4_laneBy 62 = .ok (.iload_n 1, 1) := by decide +kernel
theorem dX4_laneBy_63 : decode cX4_laneBy 63 = .ok (.iload_n 2, 1) := by decide +kernel
theorem dX4_laneBy_64 : decode cX4_laneBy 64 = .ok (.invokestatic 36, 3) := by decide +kernel
theorem dX4_laneBy_67 : decode cX4_laneBy 67 = .ok (.ifCond .eq 9, 3) := by decide +kernel
theorem dX4_laneBy_70 : decode cX4_laneBy 70 = .ok (.iload_n 3, 1) := by decide +kernel
theorem dX4_laneBy_71 : decode cX4_laneBy 71 = .ok (.iconst 1, 1) := by decide +kernel
theorem dX4_laneBy_72 : decode cX4_laneBy 72 = .ok (.iadd, 1) := by decide +kernel
theorem dX4_laneBy_73 : decode cX4_laneBy 73 = .ok (.goto 9, 3) := by decide +kernel
theorem dX4_laneBy_76 : decode cX4_laneBy 76 = .ok (.aload_n 0, 1) := by decide +kernel
theorem dX4_laneBy_77 : decode cX4_laneBy 77 = .ok (.getfield 22, 3) := by decide +kernel
theorem dX4_laneBy_80 : decode cX4_laneBy 80 = .ok (.iload_n 3, 1) := by decide +kernel
theorem dX4_laneBy_81 : decode cX4_laneBy 81 = .ok (.iaload, 1) := by decide +kernel
theorem dX4_laneBy_82 : decode cX4_laneBy 82 = .ok (.istore_n 3, 1) := by decide +kernel
theorem dX4_laneBy_83 : decode cX4_laneBy 83 = .ok (.iinc 4 1, 3) := by decide +kernel
theorem dX4_laneBy_86 : decode cX4_laneBy 86 = .ok (.goto (-81), 3) := by decide +kernel
theorem dX4_laneBy_89 : decode cX4_laneBy 89 = .ok (.iconst (-1), 1) := by decide +kernel
theorem dX4_laneBy_90 : decode cX4_laneBy 90 = .ok (.ireturn, 1) := by decide +kernel
theorem dX4_holds_0 : decode cX4_holds 0 = .ok (.iload_n 0, 1) := by decide +kernel
theorem dX4_holds_1 : decode cX4_holds 1 = .ok (.lookupswitch 75 #[(99, 35), (108, 46), (109, 58)], 35) := by decide +kernel
theorem dX4_holds_36 : decode cX4_holds 36 = .ok (.iload_n 3, 1) := by decide +kernel
theorem dX4_holds_37 : decode cX4_holds 37 = .ok (.iload_n 1, 1) := by decide +kernel
theorem dX4_holds_38 : decode cX4_holds 38 = .ok (.if_icmp .ge 7, 3) := by decide +kernel
theorem dX4_holds_41 : decode cX4_holds 41 = .ok (.iconst 1, 1) := by decide +kernel
theorem dX4_holds_42 : decode cX4_holds 42 = .ok (.goto 4, 3) := by decide +kernel
theorem dX4_holds_45 : decode cX4_holds 45 = .ok (.iconst 0, 1) := by decide +kernel
theorem dX4_holds_46 : decode cX4_holds 46 = .ok (.ireturn, 1) := by decide +kernel
theorem dX4_holds_47 : decode cX4_holds 47 = .ok (.iload 4, 2) := by decide +kernel
theorem dX4_holds_49 : decode cX4_holds 49 = .ok (.iload_n 1, 1) := by decide +kernel
theorem dX4_holds_50 : decode cX4_holds 50 = .ok (.if_icmp .ge 7, 3) := by decide +kernel
theorem dX4_holds_53 : decode cX4_holds 53 = .ok (.iconst 1, 1) := by decide +kernel
theorem dX4_holds_54 : decode cX4_holds 54 = .ok (.goto 4, 3) := by decide +kernel
theorem dX4_holds_57 : decode cX4_holds 57 = .ok (.iconst 0, 1) := by decide +kernel
theorem dX4_holds_58 : decode cX4_holds 58 = .ok (.ireturn, 1) := by decide +kernel
theorem dX4_holds_59 : decode cX4_holds 59 = .ok (.iload_n 1, 1) := by decide +kernel
theorem dX4_holds_60 : decode cX4_holds 60 = .ok (.ifCond .eq 14, 3) := by decide +kernel
theorem dX4_holds_63 : decode cX4_holds 63 = .ok (.iload_n 3, 1) := by decide +kernel
theorem dX4_holds_64 : decode cX4_holds 64 = .ok (.iload_n 1, 1) := by decide +kernel
theorem dX4_holds_65 : decode cX4_holds 65 = .ok (.irem, 1) := by decide +kernel
theorem dX4_holds_66 : decode cX4_holds 66 = .ok (.iload_n 2, 1) := by decide +kernel
theorem dX4_holds_67 : decode cX4_holds 67 = .ok (.if_icmp .ne 7, 3) := by decide +kernel
theorem dX4_holds_70 : decode cX4_holds 70 = .ok (.iconst 1, 1) := by decide +kernel
theorem dX4_holds_71 : decode cX4_holds 71 = .ok (.goto 4, 3) := by decide +kernel
theorem dX4_holds_74 : decode cX4_holds 74 = .ok (.iconst 0, 1) := by decide +kernel
theorem dX4_holds_75 : decode cX4_holds 75 = .ok (.ireturn, 1) := by decide +kernel
theorem dX4_holds_76 : decode cX4_holds 76 = .ok (.iconst 0, 1) := by decide +kernel
theorem dX4_holds_77 : decode cX4_holds 77 = .ok (.ireturn, 1) := by decide +kernel
theorem dX5_init_0 : decode cX5_init 0 = .ok (.aload_n 0, 1) := by decide +kernel
theorem dX5_init_1 : decode cX5_init 1 = .ok (.invokespecial 3, 3) := by decide +kernel
theorem dX5_init_4 : decode cX5_init 4 = .ok (.aload_n 0, 1) := by decide +kernel
theorem dX5_init_5 : decode cX5_init 5 = .ok (.bipush 80, 2) := by decide +kernel
theorem dX5_init_7 : decode cX5_init 7 = .ok (.newarray .char, 2) := by decide +kernel
theorem dX5_init_9 : decode cX5_init 9 = .ok (.putfield 9, 3) := by decide +kernel
theorem dX5_init_12 : decode cX5_init 12 = .ok (.return_, 1) := by decide +kernel
theorem dX5_add_0 : decode cX5_add 0 = .ok (.aload_n 0, 1) := by decide +kernel
theorem dX5_add_1 : decode cX5_add 1 = .ok (.getfield 15, 3) := by decide +kernel
theorem dX5_add_4 : decode cX5_add 4 = .ok (.bipush 80, 2) := by decide +kernel
theorem dX5_add_6 : decode cX5_add 6 = .ok (.if_icmp .ge 24, 3) := by decide +kernel
theorem dX5_add_9 : decode cX5_add 9 = .ok (.aload_n 0, 1) := by decide +kernel
theorem dX5_add_10 : decode cX5_add 10 = .ok (.getfield 9, 3) := by decide +kernel
theorem dX5_add_13 : decode cX5_add 13 = .ok (.aload_n 0, 1) := by decide +kernel
theorem dX5_add_14 : decode cX5_add 14 = .ok (.getfield 15, 3) := by decide +kernel
theorem dX5_add_17 : decode cX5_add 17 = .ok (.iload_n 1, 1) := by decide +kernel
theorem dX5_add_18 : decode cX5_add 18 = .ok (.i2c, 1) := by decide +kernel
theorem dX5_add_19 : decode cX5_add 19 = .ok (.castore, 1) := by decide +kernel
theorem dX5_add_20 : decode cX5_add 20 = .ok (.aload_n 0, 1) := by decide +kernel
theorem dX5_add_21 : decode cX5_add 21 = .ok (.dup, 1) := by decide +kernel
theorem dX5_add_22 : decode cX5_add 22 = .ok (.getfield 15, 3) := by decide +kernel
theorem dX5_add_25 : decode cX5_add 25 = .ok (.iconst 1, 1) := by decide +kernel
theorem dX5_add_26 : decode cX5_add 26 = .ok (.iadd, 1) := by decide +kernel
theorem dX5_add_27 : decode cX5_add 27 = .ok (.putfield 15, 3) := by decide +kernel
theorem dX5_add_30 : decode cX5_add 30 = .ok (.return_, 1) := by decide +kernel
theorem dX5_parseInto_0 : decode cX5_parseInto 0 = .ok (.aload_n 0, 1) := by decide +kernel
theorem dX5_parseInto_1 : decode cX5_parseInto 1 = .ok (.iconst 0, 1) := by decide +kernel
theorem dX5_parseInto_2 : decode cX5_parseInto 2 = .ok (.putfield 19, 3) := by decide +kernel
theorem dX5_parseInto_5 : decode cX5_parseInto 5 = .ok (.aload_n 1, 1) := by decide +kernel
theorem dX5_parseInto_6 : decode cX5_parseInto 6 = .ok (.invokevirtual 22, 3) := by decide +kernel
theorem dX5_parseInto_9 : decode cX5_parseInto 9 = .ok (.aload_n 0, 1) := by decide +kernel
theorem dX5_parseInto_10 : decode cX5_parseInto 10 = .ok (.aload_n 1, 1) := by decide +kernel
theorem dX5_parseInto_11 : decode cX5_parseInto 11 = .ok (.iconst 0, 1) := by decide +kernel
theorem dX5_parseInto_12 : decode cX5_parseInto 12 = .ok (.invokevirtual 27, 3) := by decide +kernel
theorem dX5_parseInto_15 : decode cX5_parseInto 15 = .ok (.ifCond .eq 18, 3) := by decide +kernel
theorem dX5_parseInto_18 : decode cX5_parseInto 18 = .ok (.aload_n 0, 1) := by decide +kernel
theorem dX5_parseInto_19 : decode cX5_parseInto 19 = .ok (.getfield 19, 3) := by decide +kernel
theorem dX5_parseInto_22 : decode cX5_parseInto 22 = .ok (.aload_n 0, 1) := by decide +kernel
theorem dX5_parseInto_23 : decode cX5_parseInto 23 = .ok (.getfield 15, 3) := by decide +kernel
theorem dX5_parseInto_26 : decode cX5_parseInto 26 = .ok (.if_icmp .ne 7, 3) := by decide +kernel
theorem dX5_parseInto_29 : decode cX5_parseInto 29 = .ok (.iconst (-1), 1) := by decide +kernel
theorem dX5_parseInto_30 : decode cX5_parseInto 30 = .ok (.goto 7, 3) := by decide +kernel
theorem dX5_parseInto_33 : decode cX5_parseInto 33 = .ok (.aload_n 0, 1) := by decide +kernel
theorem dX5_parseInto_34 : decode cX5_parseInto 34 = .ok (.getfield 19, 3) := by decide +kernel
theorem dX5_parseInto_37 : decode cX5_parseInto 37 = .ok (.ireturn, 1) := by decide +kernel
theorem dX5_takesRule_0 : decode cX5_takesRule 0 = .ok (.aload_n 0, 1) := by decide +kernel
theorem dX5_takesRule_1 : decode cX5_takesRule 1 = .ok (.invokevirtual 31, 3) := by decide +kernel
theorem dX5_takesRule_4 : decode cX5_takesRule 4 = .ok (.istore_n 3, 1) := by decide +kernel
theorem dX5_takesRule_5 : decode cX5_takesRule 5 = .ok (.iload_n 3, 1) := by decide +kernel
theorem dX5_takesRule_6 : decode cX5_takesRule 6 = .ok (.bipush 120, 2) := by decide +kernel
theorem dX5_takesRule_8 : decode cX5_takesRule 8 = .ok (.if_icmp .eq 15, 3) := by decide +kernel
theorem dX5_takesRule_11 : decode cX5_takesRule 11 = .ok (.iload_n 3, 1) := by decide +kernel
theorem dX5_takesRule_12 : decode cX5_takesRule 12 = .ok (.bipush 48, 2) := by decide +kernel
theorem dX5_takesRule_14 : decode cX5_takesRule 14 = .ok (.if_icmp .lt 39, 3) := by decide +kernel
theorem dX5_takesRule_17 : decode cX5_takesRule 17 = .ok (.iload_n 3, 1) := by decide +kernel
theorem dX5_takesRule_18 : decode cX5_takesRule 18 = .ok (.bipush 54, 2) := by decide +kernel
theorem dX5_takesRule_20 : decode cX5_takesRule 20 = .ok (.if_icmp .ge 33, 3) := by decide +kernel
theorem dX5_takesRule_23 : decode cX5_takesRule 23 = .ok (.aload_n 1, 1) := by decide +kernel
theorem dX5_takesRule_24 : decode cX5_takesRule 24 = .ok (.iload_n 3, 1) := by decide +kernel
theorem dX5_takesRule_25 : decode cX5_takesRule 25 = .ok (.bipush 120, 2) := by decide +kernel
theorem dX5_takesRule_27 : decode cX5_takesRule 27 = .ok (.if_icmp .ne 7, 3) := by decide +kernel
theorem dX5_takesRule_30 : decode cX5_takesRule 30 = .ok (.iconst (-1), 1) := by decide +kernel
theorem dX5_takesRule_31 : decode cX5_takesRule 31 = .ok (.goto 7, 3) := by decide +kernel
theorem dX5_takesRule_34 : decode cX5_takesRule 34 = .ok (.iload_n 3, 1) := by decide +kernel
theorem dX5_takesRule_35 : decode cX5_takesRule 35 = .ok (.bipush 48, 2) := by decide +kernel
theorem dX5_takesRule_37 : decode cX5_takesRule 37 = .ok (.isub, 1) := by decide +kernel
theorem dX5_takesRule_38 : decode cX5_takesRule 38 = .ok (.invokevirtual 35, 3) := by decide +kernel
theorem dX5_takesRule_41 : decode cX5_takesRule 41 = .ok (.aload_n 0, 1) := by decide +kernel
theorem dX5_takesRule_42 : decode cX5_takesRule 42 = .ok (.dup, 1) := by decide +kernel
theorem dX5_takesRule_43 : decode cX5_takesRule 43 = .ok (.getfield 19, 3) := by decide +kernel
theorem dX5_takesRule_46 : decode cX5_takesRule 46 = .ok (.iconst 1, 1) := by decide +kernel
theorem dX5_takesRule_47 : decode cX5_takesRule 47 = .ok (.iadd, 1) := by decide +kernel
theorem dX5_takesRule_48 : decode cX5_takesRule 48 = .ok (.putfield 19, 3) := by decide +kernel
theorem dX5_takesRule_51 : decode cX5_takesRule 51 = .ok (.iconst 1, 1) := by decide +kernel
theorem dX5_takesRule_52 : decode cX5_takesRule 52 = .ok (.ireturn, 1) := by decide +kernel
theorem dX5_takesRule_53 : decode cX5_takesRule 53 = .ok (.iload_n 2, 1) := by decide +kernel
theorem dX5_takesRule_54 : decode cX5_takesRule 54 = .ok (.bipush 6, 2) := by decide +kernel
theorem dX5_takesRule_56 : decode cX5_takesRule 56 = .ok (.if_icmp .ge 16, 3) := by decide +kernel
theorem dX5_takesRule_59 : decode cX5_takesRule 59 = .ok (.aload_n 0, 1) := by decide +kernel
theorem dX5_takesRule_60 : decode cX5_takesRule 60 = .ok (.aload_n 1, 1) := by decide +kernel
theorem dX5_takesRule_61 : decode cX5_takesRule 61 = .ok (.iload_n 2, 1) := by decide +kernel
theorem dX5_takesRule_62 : decode cX5_takesRule 62 = .ok (.invokevirtual 39, 3) := by decide +kernel
theorem dX5_takesRule_65 : decode cX5_takesRule 65 = .ok (.ifCond .eq 7, 3) := by decide +kernel
theorem dX5_takesRule_68 : decode cX5_takesRule 68 = .ok (.iconst 1, 1) := by decide +kernel
theorem dX5_takesRule_69 : decode cX5_takesRule 69 = .ok (.goto 4, 3) := by decide +kernel
theorem dX5_takesRule_72 : decode cX5_takesRule 72 = .ok (.iconst 0, 1) := by decide +kernel
theorem dX5_takesRule_73 : decode cX5_takesRule 73 = .ok (.ireturn, 1) := by decide +kernel
theorem dX5_takesChoice_0 : decode cX5_takesChoice 0 = .ok (.aload_n 0, 1) := by decide +kernel
theorem dX5_takesChoice_1 : decode cX5_takesChoice 1 = .ok (.bipush 63, 2) := by decide +kernel
theorem dX5_takesChoice_3 : decode cX5_takesChoice 3 = .ok (.invokevirtual 42, 3) := by decide +kernel
theorem dX5_takesChoice_6 : decode cX5_takesChoice 6 = .ok (.ifCond .ne 5, 3) := by decide +kernel
theorem dX5_takesChoice_9 : decode cX5_takesChoice 9 = .ok (.iconst 0, 1) := by decide +kernel
theorem dX5_takesChoice_10 : decode cX5_takesChoice 10 = .ok (.ireturn, 1) := by decide +kernel
theorem dX5_takesChoice_11 : decode cX5_takesChoice 11 = .ok (.aload_n 0, 1) := by decide +kernel
theorem dX5_takesChoice_12 : decode cX5_takesChoice 12 = .ok (.aload_n 1, 1) := by decide +kernel
theorem dX5_takesChoice_13 : decode cX5_takesChoice 13 = .ok (.invokevirtual 46, 3) := by decide +kernel
theorem dX5_takesChoice_16 : decode cX5_takesChoice 16 = .ok (.istore_n 3, 1) := by decide +kernel
theorem dX5_takesChoice_17 : decode cX5_takesChoice 17 = .ok (.iload_n 3, 1) := by decide +kernel
theorem dX5_takesChoice_18 : decode cX5_takesChoice 18 = .ok (.iconst (-1), 1) := by decide +kernel
theorem dX5_takesChoice_19 : decode cX5_takesChoice 19 = .ok (.if_icmp .eq 14, 3) := by decide +kernel
theorem dX5_takesChoice_22 : decode cX5_takesChoice 22 = .ok (.aload_n 0, 1) := by decide +kernel
theorem dX5_takesChoice_23 : decode cX5_takesChoice 23 = .ok (.aload_n 1, 1) := by decide +kernel
theorem dX5_takesChoice_24 : decode cX5_takesChoice 24 = .ok (.iload_n 2, 1) := by decide +kernel
theorem dX5_takesChoice_25 : decode cX5_takesChoice 25 = .ok (.iconst 1, 1) := by decide +kernel
theorem dX5_takesChoice_26 : decode cX5_takesChoice 26 = .ok (.iadd, 1) := by decide +kernel
theorem dX5_takesChoice_27 : decode cX5_takesChoice 27 = .ok (.invokevirtual 27, 3) := by decide +kernel
theorem dX5_takesChoice_30 : decode cX5_takesChoice 30 = .ok (.ifCond .ne 5, 3) := by decide +kernel
theorem dX5_takesChoice_33 : decode cX5_takesChoice 33 = .ok (.iconst 0, 1) := by decide +kernel
theorem dX5_takesChoice_34 : decode cX5_takesChoice 34 = .ok (.ireturn, 1) := by decide +kernel
theorem dX5_takesChoice_35 : decode cX5_takesChoice 35 = .ok (.aload_n 1, 1) := by decide +kernel
theorem dX5_takesChoice_36 : decode cX5_takesChoice 36 = .ok (.iload_n 3, 1) := by decide +kernel
theorem dX5_takesChoice_37 : decode cX5_takesChoice 37 = .ok (.invokevirtual 50, 3) := by decide +kernel
theorem dX5_takesChoice_40 : decode cX5_takesChoice 40 = .ok (.aload_n 0, 1) := by decide +kernel
theorem dX5_takesChoice_41 : decode cX5_takesChoice 41 = .ok (.aload_n 1, 1) := by decide +kernel
theorem dX5_takesChoice_42 : decode cX5_takesChoice 42 = .ok (.iload_n 2, 1) := by decide +kernel
theorem dX5_takesChoice_43 : decode cX5_takesChoice 43 = .ok (.iconst 1, 1) := by decide +kernel
theorem dX5_takesChoice_44 : decode cX5_takesChoice 44 = .ok (.iadd, 1) := by decide +kernel
theorem dX5_takesChoice_45 : decode cX5_takesChoice 45 = .ok (.invokevirtual 27, 3) := by decide +kernel
theorem dX5_takesChoice_48 : decode cX5_takesChoice 48 = .ok (.ireturn, 1) := by decide +kernel
theorem dX5_takeCondition_0 : decode cX5_takeCondition 0 = .ok (.aload_n 0, 1) := by decide +kernel
theorem dX5_takeCondition_1 : decode cX5_takeCondition 1 = .ok (.invokevirtual 31, 3) := by decide +kernel
theorem dX5_takeCondition_4 : decode cX5_takeCondition 4 = .ok (.istore_n 2, 1) := by decide +kernel
theorem dX5_takeCondition_5 : decode cX5_takeCondition 5 = .ok (.aload_n 0, 1) := by decide +kernel
theorem dX5_takeCondition_6 : decode cX5_takeCondition 6 = .ok (.bipush 99, 2) := by decide +kernel
theorem dX5_takeCondition_8 : decode cX5_takeCondition 8 = .ok (.invokevirtual 42, 3) := by decide +kernel
theorem dX5_takeCondition_11 : decode cX5_takeCondition 11 = .ok (.ifCond .ne 23, 3) := by decide +kernel
theorem dX5_takeCondition_14 : decode cX5_takeCondition 14 = .ok (.aload_n 0, 1) := by decide +kernel
theorem dX5_takeCondition_15 : decode cX5_takeCondition 15 = .ok (.bipush 108, 2) := by decide +kernel
theorem dX5_takeCondition_17 : decode cX5_takeCondition 17 = .ok (.invokevirtual 42, 3) := by decide +kernel
theorem dX5_takeCondition_20 : decode cX5_takeCondition 20 = .ok (.ifCond .ne 14, 3) := by decide +kernel
theorem dX5_takeCondition_23 : decode cX5_takeCondition 23 = .ok (.aload_n 0, 1) := by decide +kernel
theorem dX5_takeCondition_24 : decode cX5_takeCondition 24 = .ok (.bipush 109, 2) := by decide +kernel
theorem dX5_takeCondition_26 : decode cX5_takeCondition 26 = .ok (.invokevirtual 42, 3) := by decide +kernel
theorem dX5_takeCondition_29 : decode cX5_takeCondition 29 = .ok (.ifCond .ne 5, 3) := by decide +kernel
theorem dX5_takeCondition_32 : decode cX5_takeCondition 32 = .ok (.iconst (-1), 1) := by decide +kernel
theorem dX5_takeCondition_33 : decode cX5_takeCondition 33 = .ok (.ireturn, 1) := by decide +kernel
theorem dX5_takeCondition_34 : decode cX5_takeCondition 34 = .ok (.aload_n 0, 1) := by decide +kernel
theorem dX5_takeCondition_35 : decode cX5_takeCondition 35 = .ok (.invokevirtual 53, 3) := by decide +kernel
theorem dX5_takeCondition_38 : decode cX5_takeCondition 38 = .ok (.istore_n 3, 1) := by decide +kernel
theorem dX5_takeCondition_39 : decode cX5_takeCondition 39 = .ok (.iconst 0, 1) := by decide +kernel
theorem dX5_takeCondition_40 : decode cX5_takeCondition 40 = .ok (.istore 4, 2) := by decide +kernel
theorem dX5_takeCondition_42 : decode cX5_takeCondition 42 = .ok (.iload_n 2, 1) := by decide +kernel
theorem dX5_takeCondition_43 : decode cX5_takeCondition 43 = .ok (.bipush 109, 2) := by decide +kernel
theorem dX5_takeCondition_45 : decode cX5_takeCondition 45 = .ok (.if_icmp .ne 29, 3) := by decide +kernel
theorem dX5_takeCondition_48 : decode cX5_takeCondition 48 = .ok (.iload_n 3, 1) := by decide +kernel
theorem dX5_takeCondition_49 : decode cX5_takeCondition 49 = .ok (.ifCond .eq 17, 3) := by decide +kernel
theorem dX5_takeCondition_52 : decode cX5_takeCondition 52 = .ok (.iload_n 3, 1) := by decide +kernel
theorem dX5_takeCondition_53 : decode cX5_takeCondition 53 = .ok (.iconst (-1), 1) := by decide +kernel
theorem dX5_takeCondition_54 : decode cX5_takeCondition 54 = .ok (.if_icmp .eq 12, 3) := by decide +kernel
theorem dX5_takeCondition_57 : decode cX5_takeCondition 57 = .ok (.aload_n 0, 1) := by decide +kernel
theorem dX5_takeCondition_58 : decode cX5_takeCondition 58 = .ok (.bipush 44, 2) := by decide +kernel
theorem dX5_takeCondition_60 : decode cX5_takeCondition 60 = .ok (.invokevirtual 42, 3) := by decide +kernel
theorem dX5_takeCondition_63 : decode cX5_takeCondition 63 = .ok (.ifCond .ne 5, 3) := by decide +kernel
theorem dX5_takeCondition_66 : decode cX5_takeCondition 66 = .ok (.iconst (-1), 1) := by decide +kernel
theorem dX5_takeCondition_67 : decode cX5_takeCondition 67 = .ok (.ireturn, 1) := by decide +kernel
theorem dX5_takeCondition_68 : decode cX5_takeCondition 68 = .ok (.aload_n 0, 1) := by decide +kernel
theorem dX5_takeCondition_69 : decode cX5_takeCondition 69 = .ok (.invokevirtual 53, 3) := by decide +kernel
theorem dX5_takeCondition_72 : decode cX5_takeCondition 72 = .ok (.istore 4, 2) := by decide +kernel
theorem dX5_takeCondition_74 : decode cX5_takeCondition 74 = .ok (.iload_n 3, 1) := by decide +kernel
theorem dX5_takeCondition_75 : decode cX5_takeCondition 75 = .ok (.iconst (-1), 1) := by decide +kernel
theorem dX5_takeCondition_76 : decode cX5_takeCondition 76 = .ok (.if_icmp .eq 18, 3) := by decide +kernel
theorem dX5_takeCondition_79 : decode cX5_takeCondition 79 = .ok (.iload 4, 2) := by decide +kernel
theorem dX5_takeCondition_81 : decode cX5_takeCondition 81 = .ok (.iconst (-1), 1) := by decide +kernel
theorem dX5_takeCondition_82 : decode cX5_takeCondition 82 = .ok (.if_icmp .eq 12, 3) := by decide +kernel
theorem dX5_takeCondition_85 : decode cX5_takeCondition 85 = .ok (.aload_n 0, 1) := by decide +kernel
theorem dX5_takeCondition_86 : decode cX5_takeCondition 86 = .ok (.bipush 59, 2) := by decide +kernel
theorem dX5_takeCondition_88 : decode cX5_takeCondition 88 = .ok (.invokevirtual 42, 3) := by decide +kernel
theorem dX5_takeCondition_91 : decode cX5_takeCondition 91 = .ok (.ifCond .ne 5, 3) := by decide +kernel
theorem dX5_takeCondition_94 : decode cX5_takeCondition 94 = .ok (.iconst (-1), 1) := by decide +kernel
theorem dX5_takeCondition_95 : decode cX5_takeCondition 95 = .ok (.ireturn, 1) := by decide +kernel
theorem dX5_takeCondition_96 : decode cX5_takeCondition 96 = .ok (.aload_n 1, 1) := by decide +kernel
theorem dX5_takeCondition_97 : decode cX5_takeCondition 97 = .ok (.iload_n 2, 1) := by decide +kernel
theorem dX5_takeCondition_98 : decode cX5_takeCondition 98 = .ok (.iload_n 3, 1) := by decide +kernel
theorem dX5_takeCondition_99 : decode cX5_takeCondition 99 = .ok (.iload 4, 2) := by decide +kernel
theorem dX5_takeCondition_101 : decode cX5_takeCondition 101 = .ok (.invokevirtual 56, 3) := by decide +kernel
theorem dX5_takeCondition_104 : decode cX5_takeCondition 104 = .ok (.ireturn, 1) := by decide +kernel
theorem dX5_takeNumber_0 : decode cX5_takeNumber 0 = .ok (.iconst (-1), 1) := by decide +kernel
theorem dX5_takeNumber_1 : decode cX5_takeNumber 1 = .ok (.istore_n 1, 1) := by decide +kernel
theorem dX5_takeNumber_2 : decode cX5_takeNumber 2 = .ok (.iconst 0, 1) := by decide +kernel
theorem dX5_takeNumber_3 : decode cX5_takeNumber 3 = .ok (.istore_n 2, 1) := by decide +kernel
theorem dX5_takeNumber_4 : decode cX5_takeNumber 4 = .ok (.iload_n 2, 1) := by decide +kernel
theorem dX5_takeNumber_5 : decode cX5_takeNumber 5 = .ok (.iconst 3, 1) := by decide +kernel
theorem dX5_takeNumber_6 : decode cX5_takeNumber 6 = .ok (.if_icmp .ge 57, 3) := by decide +kernel
theorem dX5_takeNumber_9 : decode cX5_takeNumber 9 = .ok (.aload_n 0, 1) := by decide +kernel
theorem dX5_takeNumber_10 : decode cX5_takeNumber 10 = .ok (.invokevirtual 31, 3) := by decide +kernel
theorem dX5_takeNumber_13 : decode cX5_takeNumber 13 = .ok (.istore_n 3, 1) := by decide +kernel
theorem dX5_takeNumber_14 : decode cX5_takeNumber 14 = .ok (.iload_n 3, 1) := by decide +kernel
theorem dX5_takeNumber_15 : decode cX5_takeNumber 15 = .ok (.bipush 48, 2) := by decide +kernel
theorem dX5_takeNumber_17 : decode cX5_takeNumber 17 = .ok (.if_icmp .lt 46, 3) := by decide +kernel
theorem dX5_takeNumber_20 : decode cX5_takeNumber 20 = .ok (.iload_n 3, 1) := by decide +kernel
theorem dX5_takeNumber_21 : decode cX5_takeNumber 21 = .ok (.bipush 57, 2) := by decide +kernel
theorem dX5_takeNumber_23 : decode cX5_takeNumber 23 = .ok (.if_icmp .le 6, 3) := by decide +kernel
theorem dX5_takeNumber_26 : decode cX5_takeNumber 26 = .ok (.goto 37, 3) := by decide +kernel
theorem dX5_takeNumber_29 : decode cX5_takeNumber 29 = .ok (.iload_n 2, 1) := by decide +kernel
theorem dX5_takeNumber_30 : decode cX5_takeNumber 30 = .ok (.ifCond .ne 7, 3) := by decide +kernel
theorem dX5_takeNumber_33 : decode cX5_takeNumber 33 = .ok (.iconst 0, 1) := by decide +kernel
theorem dX5_takeNumber_34 : decode cX5_takeNumber 34 = .ok (.goto 7, 3) := by decide +kernel
theorem dX5_takeNumber_37 : decode cX5_takeNumber 37 = .ok (.bipush 10, 2) := by decide +kernel
theorem dX5_takeNumber_39 : decode cX5_takeNumber 39 = .ok (.iload_n 1, 1) := by decide +kernel
theorem dX5_takeNumber_40 : decode cX5_takeNumber 40 = .ok (.imul, 1) := by decide +kernel
theorem dX5_takeNumber_41 : decode cX5_takeNumber 41 = .ok (.iload_n 3, 1) := by decide +kernel
theorem dX5_takeNumber_42 : decode cX5_takeNumber 42 = .ok (.iadd, 1) := by decide +kernel
theorem dX5_takeNumber_43 : decode cX5_takeNumber 43 = .ok (.bipush 48, 2) := by decide +kernel
theorem dX5_takeNumber_45 : decode cX5_takeNumber 45 = .ok (.isub, 1) := by decide +kernel
theorem dX5_takeNumber_46 : decode cX5_takeNumber 46 = .ok (.istore_n 1, 1) := by decide +kernel
theorem dX5_takeNumber_47 : decode cX5_takeNumber 47 = .ok (.aload_n 0, 1) := by decide +kernel
theorem dX5_takeNumber_48 : decode cX5_takeNumber 48 = .ok (.dup, 1) := by decide +kernel
theorem dX5_takeNumber_49 : decode cX5_takeNumber 49 = .ok (.getfield 19, 3) := by decide +kernel
theorem dX5_takeNumber_52 : decode cX5_takeNumber 52 = .ok (.iconst 1, 1) := by decide +kernel
theorem dX5_takeNumber_53 : decode cX5_takeNumber 53 = .ok (.iadd, 1) := by decide +kernel
theorem dX5_takeNumber_54 : decode cX5_takeNumber 54 = .ok (.putfield 19, 3) := by decide +kernel
theorem dX5_takeNumber_57 : decode cX5_takeNumber 57 = .ok (.iinc 2 1, 3) := by decide +kernel
theorem dX5_takeNumber_60 : decode cX5_takeNumber 60 = .ok (.goto (-56), 3) := by decide +kernel
theorem dX5_takeNumber_63 : decode cX5_takeNumber 63 = .ok (.iload_n 1, 1) := by decide +kernel
theorem dX5_takeNumber_64 : decode cX5_takeNumber 64 = .ok (.ireturn, 1) := by decide +kernel
theorem dX5_takesSign_0 : decode cX5_takesSign 0 = .ok (.aload_n 0, 1) := by decide +kernel
theorem dX5_takesSign_1 : decode cX5_takesSign 1 = .ok (.invokevirtual 31, 3) := by decide +kernel
theorem dX5_takesSign_4 : decode cX5_takesSign 4 = .ok (.iload_n 1, 1) := by decide +kernel
theorem dX5_takesSign_5 : decode cX5_takesSign 5 = .ok (.if_icmp .eq 5, 3) := by decide +kernel
theorem dX5_takesSign_8 : decode cX5_takesSign 8 = .ok (.iconst 0, 1) := by decide +kernel
theorem dX5_takesSign_9 : decode cX5_takesSign 9 = .ok (.ireturn, 1) := by decide +kernel
theorem dX5_takesSign_10 : decode cX5_takesSign 10 = .ok (.aload_n 0, 1) := by decide +kernel
theorem dX5_takesSign_11 : decode cX5_takesSign 11 = .ok (.dup, 1) := by decide +kernel
theorem dX5_takesSign_12 : decode cX5_takesSign 12 = .ok (.getfield 19, 3) := by decide +kernel
theorem dX5_takesSign_15 : decode cX5_takesSign 15 = .ok (.iconst 1, 1) := by decide +kernel
theorem dX5_takesSign_16 : decode cX5_takesSign 16 = .ok (.iadd, 1) := by decide +kernel
theorem dX5_takesSign_17 : decode cX5_takesSign 17 = .ok (.putfield 19, 3) := by decide +kernel
theorem dX5_takesSign_20 : decode cX5_takesSign 20 = .ok (.iconst 1, 1) := by decide +kernel
theorem dX5_takesSign_21 : decode cX5_takesSign 21 = .ok (.ireturn, 1) := by decide +kernel
theorem dX5_nextSign_0 : decode cX5_nextSign 0 = .ok (.aload_n 0, 1) := by decide +kernel
theorem dX5_nextSign_1 : decode cX5_nextSign 1 = .ok (.getfield 19, 3) := by decide +kernel
theorem dX5_nextSign_4 : decode cX5_nextSign 4 = .ok (.ifCond .lt 35, 3) := by decide +kernel
theorem dX5_nextSign_7 : decode cX5_nextSign 7 = .ok (.aload_n 0, 1) := by decide +kernel
theorem dX5_nextSign_8 : decode cX5_nextSign 8 = .ok (.getfield 19, 3) := by decide +kernel
theorem dX5_nextSign_11 : decode cX5_nextSign 11 = .ok (.aload_n 0, 1) := by decide +kernel
theorem dX5_nextSign_12 : decode cX5_nextSign 12 = .ok (.getfield 15, 3) := by decide +kernel
theorem dX5_nextSign_15 : decode cX5_nextSign 15 = .ok (.if_icmp .ge 24, 3) := by decide +kernel
theorem dX5_nextSign_18 : decode cX5_nextSign 18 = .ok (.aload_n 0, 1) := by decide +kernel
theorem dX5_nextSign_19 : decode cX5_nextSign 19 = .ok (.getfield 19, 3) := by decide +kernel
theorem dX5_nextSign_22 : decode cX5_nextSign 22 = .ok (.bipush 80, 2) := by decide +kernel
theorem dX5_nextSign_24 : decode cX5_nextSign 24 = .ok (.if_icmp .ge 15, 3) := by decide +kernel
theorem dX5_nextSign_27 : decode cX5_nextSign 27 = .ok (.aload_n 0, 1) := by decide +kernel
theorem dX5_nextSign_28 : decode cX5_nextSign 28 = .ok (.getfield 9, 3) := by decide +kernel
theorem dX5_nextSign_31 : decode cX5_nextSign 31 = .ok (.aload_n 0, 1) := by decide +kernel
theorem dX5_nextSign_32 : decode cX5_nextSign 32 = .ok (.getfield 19, 3) := by decide +kernel
theorem dX5_nextSign_35 : decode cX5_nextSign 35 = .ok (.caload, 1) := by decide +kernel
theorem dX5_nextSign_36 : decode cX5_nextSign 36 = .ok (.goto 4, 3) := by decide +kernel
theorem dX5_nextSign_39 : decode cX5_nextSign 39 = .ok (.iconst (-1), 1) := by decide +kernel
theorem dX5_nextSign_40 : decode cX5_nextSign 40 = .ok (.ireturn, 1) := by decide +kernel
theorem dX6_init_0 : decode cX6_init 0 = .ok (.aload_n 0, 1) := by decide +kernel
theorem dX6_init_1 : decode cX6_init 1 = .ok (.invokespecial 3, 3) := by decide +kernel
theorem dX6_init_4 : decode cX6_init 4 = .ok (.aload_n 0, 1) := by decide +kernel
theorem dX6_init_5 : decode cX6_init 5 = .ok (.getstatic 9, 3) := by decide +kernel
theorem dX6_init_8 : decode cX6_init 8 = .ok (.invokevirtual 13, 3) := by decide +kernel
theorem dX6_init_11 : decode cX6_init 11 = .ok (.checkcast 14, 3) := by decide +kernel
theorem dX6_init_14 : decode cX6_init 14 = .ok (.putfield 18, 3) := by decide +kernel
theorem dX6_init_17 : decode cX6_init 17 = .ok (.aload_n 0, 1) := by decide +kernel
theorem dX6_init_18 : decode cX6_init 18 = .ok (.bipush 6, 2) := by decide +kernel
theorem dX6_init_20 : decode cX6_init 20 = .ok (.anewarray 23, 3) := by decide +kernel
theorem dX6_init_23 : decode cX6_init 23 = .ok (.putfield 25, 3) := by decide +kernel
theorem dX6_init_26 : decode cX6_init 26 = .ok (.aload_n 0, 1) := by decide +kernel
theorem dX6_init_27 : decode cX6_init 27 = .ok (.new 29, 3) := by decide +kernel
theorem dX6_init_30 : decode cX6_init 30 = .ok (.dup, 1) := by decide +kernel
theorem dX6_init_31 : decode cX6_init 31 = .ok (.invokespecial 31, 3) := by decide +kernel
theorem dX6_init_34 : decode cX6_init 34 = .ok (.putfield 32, 3) := by decide +kernel
theorem dX6_init_37 : decode cX6_init 37 = .ok (.aload_n 0, 1) := by decide +kernel
theorem dX6_init_38 : decode cX6_init 38 = .ok (.bipush 20, 2) := by decide +kernel
theorem dX6_init_40 : decode cX6_init 40 = .ok (.anewarray 36, 3) := by decide +kernel
theorem dX6_init_43 : decode cX6_init 43 = .ok (.putfield 38, 3) := by decide +kernel
theorem dX6_init_46 : decode cX6_init 46 = .ok (.aload_n 0, 1) := by decide +kernel
theorem dX6_init_47 : decode cX6_init 47 = .ok (.aload_n 1, 1) := by decide +kernel
theorem dX6_init_48 : decode cX6_init 48 = .ok (.putfield 42, 3) := by decide +kernel
theorem dX6_init_51 : decode cX6_init 51 = .ok (.iconst 0, 1) := by decide +kernel
theorem dX6_init_52 : decode cX6_init 52 = .ok (.istore_n 2, 1) := by decide +kernel
theorem dX6_init_53 : decode cX6_init 53 = .ok (.iload_n 2, 1) := by decide +kernel
theorem dX6_init_54 : decode cX6_init 54 = .ok (.bipush 6, 2) := by decide +kernel
theorem dX6_init_56 : decode cX6_init 56 = .ok (.if_icmp .ge 22, 3) := by decide +kernel
theorem dX6_init_59 : decode cX6_init 59 = .ok (.aload_n 0, 1) := by decide +kernel
theorem dX6_init_60 : decode cX6_init 60 = .ok (.getfield 25, 3) := by decide +kernel
theorem dX6_init_63 : decode cX6_init 63 = .ok (.iload_n 2, 1) := by decide +kernel
theorem dX6_init_64 : decode cX6_init 64 = .ok (.new 23, 3) := by decide +kernel
theorem dX6_init_67 : decode cX6_init 67 = .ok (.dup, 1) := by decide +kernel
theorem dX6_init_68 : decode cX6_init 68 = .ok (.invokespecial 46, 3) := by decide +kernel
theorem dX6_init_71 : decode cX6_init 71 = .ok (.aastore, 1) := by decide +kernel
theorem dX6_init_72 : decode cX6_init 72 = .ok (.iinc 2 1, 3) := by decide +kernel
theorem dX6_init_75 : decode cX6_init 75 = .ok (.goto (-22), 3) := by decide +kernel
theorem dX6_init_78 : decode cX6_init 78 = .ok (.iconst 0, 1) := by decide +kernel
theorem dX6_init_79 : decode cX6_init 79 = .ok (.istore_n 2, 1) := by decide +kernel
theorem dX6_init_80 : decode cX6_init 80 = .ok (.iload_n 2, 1) := by decide +kernel
theorem dX6_init_81 : decode cX6_init 81 = .ok (.bipush 20, 2) := by decide +kernel
theorem dX6_init_83 : decode cX6_init 83 = .ok (.if_icmp .ge 22, 3) := by decide +kernel
theorem dX6_init_86 : decode cX6_init 86 = .ok (.aload_n 0, 1) := by decide +kernel
theorem dX6_init_87 : decode cX6_init 87 = .ok (.getfield 38, 3) := by decide +kernel
theorem dX6_init_90 : decode cX6_init 90 = .ok (.iload_n 2, 1) := by decide +kernel
theorem dX6_init_91 : decode cX6_init 91 = .ok (.new 36, 3) := by decide +kernel
theorem dX6_init_94 : decode cX6_init 94 = .ok (.dup, 1) := by decide +kernel
theorem dX6_init_95 : decode cX6_init 95 = .ok (.invokespecial 47, 3) := by decide +kernel
theorem dX6_init_98 : decode cX6_init 98 = .ok (.aastore, 1) := by decide +kernel
theorem dX6_init_99 : decode cX6_init 99 = .ok (.iinc 2 1, 3) := by decide +kernel
theorem dX6_init_102 : decode cX6_init 102 = .ok (.goto (-22), 3) := by decide +kernel
theorem dX6_init_105 : decode cX6_init 105 = .ok (.return_, 1) := by decide +kernel
theorem dX6_copyFrom_0 : decode cX6_copyFrom 0 = .ok (.aload_n 1, 1) := by decide +kernel
theorem dX6_copyFrom_1 : decode cX6_copyFrom 1 = .ok (.getfield 18, 3) := by decide +kernel
theorem dX6_copyFrom_4 : decode cX6_copyFrom 4 = .ok (.iconst 0, 1) := by decide +kernel
theorem dX6_copyFrom_5 : decode cX6_copyFrom 5 = .ok (.aload_n 0, 1) := by decide +kernel
theorem dX6_copyFrom_6 : decode cX6_copyFrom 6 = .ok (.getfield 18, 3) := by decide +kernel
theorem dX6_copyFrom_9 : decode cX6_copyFrom 9 = .ok (.iconst 0, 1) := by decide +kernel
theorem dX6_copyFrom_10 : decode cX6_copyFrom 10 = .ok (.bipush 6, 2) := by decide +kernel
theorem dX6_copyFrom_12 : decode cX6_copyFrom 12 = .ok (.invokestatic 48, 3) := by decide +kernel
theorem dX6_copyFrom_15 : decode cX6_copyFrom 15 = .ok (.aload_n 0, 1) := by decide +kernel
theorem dX6_copyFrom_16 : decode cX6_copyFrom 16 = .ok (.aload_n 1, 1) := by decide +kernel
theorem dX6_copyFrom_17 : decode cX6_copyFrom 17 = .ok (.getfield 54, 3) := by decide +kernel
theorem dX6_copyFrom_20 : decode cX6_copyFrom 20 = .ok (.putfield 54, 3) := by decide +kernel
theorem dX6_copyFrom_23 : decode cX6_copyFrom 23 = .ok (.iconst 0, 1) := by decide +kernel
theorem dX6_copyFrom_24 : decode cX6_copyFrom 24 = .ok (.istore_n 2, 1) := by decide +kernel
theorem dX6_copyFrom_25 : decode cX6_copyFrom 25 = .ok (.iload_n 2, 1) := by decide +kernel
theorem dX6_copyFrom_26 : decode cX6_copyFrom 26 = .ok (.bipush 6, 2) := by decide +kernel
theorem dX6_copyFrom_28 : decode cX6_copyFrom 28 = .ok (.if_icmp .ge 24, 3) := by decide +kernel
theorem dX6_copyFrom_31 : decode cX6_copyFrom 31 = .ok (.aload_n 0, 1) := by decide +kernel
theorem dX6_copyFrom_32 : decode cX6_copyFrom 32 = .ok (.getfield 25, 3) := by decide +kernel
theorem dX6_copyFrom_35 : decode cX6_copyFrom 35 = .ok (.iload_n 2, 1) := by decide +kernel
theorem dX6_copyFrom_36 : decode cX6_copyFrom 36 = .ok (.aaload, 1) := by decide +kernel
theorem dX6_copyFrom_37 : decode cX6_copyFrom 37 = .ok (.aload_n 1, 1) := by decide +kernel
theorem dX6_copyFrom_38 : decode cX6_copyFrom 38 = .ok (.getfield 25, 3) := by decide +kernel
theorem dX6_copyFrom_41 : decode cX6_copyFrom 41 = .ok (.iload_n 2, 1) := by decide +kernel
theorem dX6_copyFrom_42 : decode cX6_copyFrom 42 = .ok (.aaload, 1) := by decide +kernel
theorem dX6_copyFrom_43 : decode cX6_copyFrom 43 = .ok (.invokevirtual 58, 3) := by decide +kernel
theorem dX6_copyFrom_46 : decode cX6_copyFrom 46 = .ok (.iinc 2 1, 3) := by decide +kernel
theorem dX6_copyFrom_49 : decode cX6_copyFrom 49 = .ok (.goto (-24), 3) := by decide +kernel
theorem dX6_copyFrom_52 : decode cX6_copyFrom 52 = .ok (.aload_n 0, 1) := by decide +kernel
theorem dX6_copyFrom_53 : decode cX6_copyFrom 53 = .ok (.getfield 32, 3) := by decide +kernel
theorem dX6_copyFrom_56 : decode cX6_copyFrom 56 = .ok (.aload_n 1, 1) := by decide +kernel
theorem dX6_copyFrom_57 : decode cX6_copyFrom 57 = .ok (.getfield 32, 3) := by decide +kernel
theorem dX6_copyFrom_60 : decode cX6_copyFrom 60 = .ok (.invokevirtual 62, 3) := by decide +kernel
theorem dX6_copyFrom_63 : decode cX6_copyFrom 63 = .ok (.aload_n 0, 1) := by decide +kernel
theorem dX6_copyFrom_64 : decode cX6_copyFrom 64 = .ok (.aload_n 1, 1) := by decide +kernel
theorem dX6_copyFrom_65 : decode cX6_copyFrom 65 = .ok (.getfield 42, 3) := by decide +kernel
theorem dX6_copyFrom_68 : decode cX6_copyFrom 68 = .ok (.putfield 42, 3) := by decide +kernel
theorem dX6_copyFrom_71 : decode cX6_copyFrom 71 = .ok (.aload_n 0, 1) := by decide +kernel
theorem dX6_copyFrom_72 : decode cX6_copyFrom 72 = .ok (.aload_n 1, 1) := by decide +kernel
theorem dX6_copyFrom_73 : decode cX6_copyFrom 73 = .ok (.getfield 65, 3) := by decide +kernel
theorem dX6_copyFrom_76 : decode cX6_copyFrom 76 = .ok (.putfield 65, 3) := by decide +kernel
theorem dX6_copyFrom_79 : decode cX6_copyFrom 79 = .ok (.iconst 0, 1) := by decide +kernel
theorem dX6_copyFrom_80 : decode cX6_copyFrom 80 = .ok (.istore_n 2, 1) := by decide +kernel
theorem dX6_copyFrom_81 : decode cX6_copyFrom 81 = .ok (.iload_n 2, 1) := by decide +kernel
theorem dX6_copyFrom_82 : decode cX6_copyFrom 82 = .ok (.bipush 20, 2) := by decide +kernel
theorem dX6_copyFrom_84 : decode cX6_copyFrom 84 = .ok (.if_icmp .ge 24, 3) := by decide +kernel
theorem dX6_copyFrom_87 : decode cX6_copyFrom 87 = .ok (.aload_n 0, 1) := by decide +kernel
theorem dX6_copyFrom_88 : decode cX6_copyFrom 88 = .ok (.getfield 38, 3) := by decide +kernel
theorem dX6_copyFrom_91 : decode cX6_copyFrom 91 = .ok (.iload_n 2, 1) := by decide +kernel
theorem dX6_copyFrom_92 : decode cX6_copyFrom 92 = .ok (.aaload, 1) := by decide +kernel
theorem dX6_copyFrom_93 : decode cX6_copyFrom 93 = .ok (.aload_n 1, 1) := by decide +kernel
theorem dX6_copyFrom_94 : decode cX6_copyFrom 94 = .ok (.getfield 38, 3) := by decide +kernel
theorem dX6_copyFrom_97 : decode cX6_copyFrom 97 = .ok (.iload_n 2, 1) := by decide +kernel
theorem dX6_copyFrom_98 : decode cX6_copyFrom 98 = .ok (.aaload, 1) := by decide +kernel
theorem dX6_copyFrom_99 : decode cX6_copyFrom 99 = .ok (.invokevirtual 68, 3) := by decide +kernel
theorem dX6_copyFrom_102 : decode cX6_copyFrom 102 = .ok (.iinc 2 1, 3) := by decide +kernel
theorem dX6_copyFrom_105 : decode cX6_copyFrom 105 = .ok (.goto (-24), 3) := by decide +kernel
theorem dX6_copyFrom_108 : decode cX6_copyFrom 108 = .ok (.aload_n 0, 1) := by decide +kernel
theorem dX6_copyFrom_109 : decode cX6_copyFrom 109 = .ok (.aload_n 1, 1) := by decide +kernel
theorem dX6_copyFrom_110 : decode cX6_copyFrom 110 = .ok (.getfield 71, 3) := by decide +kernel
theorem dX6_copyFrom_113 : decode cX6_copyFrom 113 = .ok (.putfield 71, 3) := by decide +kernel
theorem dX6_copyFrom_116 : decode cX6_copyFrom 116 = .ok (.aload_n 0, 1) := by decide +kernel
theorem dX6_copyFrom_117 : decode cX6_copyFrom 117 = .ok (.aload_n 1, 1) := by decide +kernel
theorem dX6_copyFrom_118 : decode cX6_copyFrom 118 = .ok (.getfield 74, 3) := by decide +kernel
theorem dX6_copyFrom_121 : decode cX6_copyFrom 121 = .ok (.putfield 74, 3) := by decide +kernel
theorem dX6_copyFrom_124 : decode cX6_copyFrom 124 = .ok (.aload_n 0, 1) := by decide +kernel
theorem dX6_copyFrom_125 : decode cX6_copyFrom 125 = .ok (.aload_n 1, 1) := by decide +kernel
theorem dX6_copyFrom_126 : decode cX6_copyFrom 126 = .ok (.getfield 77, 3) := by decide +kernel
theorem dX6_copyFrom_129 : decode cX6_copyFrom 129 = .ok (.putfield 77, 3) := by decide +kernel
theorem dX6_copyFrom_132 : decode cX6_copyFrom 132 = .ok (.return_, 1) := by decide +kernel
theorem dX6_hasLane_0 : decode cX6_hasLane 0 = .ok (.iload_n 1, 1) := by decide +kernel
theorem dX6_hasLane_1 : decode cX6_hasLane 1 = .ok (.ifCond .lt 15, 3) := by decide +kernel
theorem dX6_hasLane_4 : decode cX6_hasLane 4 = .ok (.iload_n 1, 1) := by decide +kernel
theorem dX6_hasLane_5 : decode cX6_hasLane 5 = .ok (.aload_n 0, 1) := by decide +kernel
theorem dX6_hasLane_6 : decode cX6_hasLane 6 = .ok (.getfield 54, 3) := by decide +kernel
theorem dX6_hasLane_9 : decode cX6_hasLane 9 = .ok (.if_icmp .ge 7, 3) := by decide +kernel
theorem dX6_hasLane_12 : decode cX6_hasLane 12 = .ok (.iconst 1, 1) := by decide +kernel
theorem dX6_hasLane_13 : decode cX6_hasLane 13 = .ok (.goto 4, 3) := by decide +kernel
theorem dX6_hasLane_16 : decode cX6_hasLane 16 = .ok (.iconst 0, 1) := by decide +kernel
theorem dX6_hasLane_17 : decode cX6_hasLane 17 = .ok (.ireturn, 1) := by decide +kernel
theorem dX6_placeOf_0 : decode cX6_placeOf 0 = .ok (.iconst 0, 1) := by decide +kernel
theorem dX6_placeOf_1 : decode cX6_placeOf 1 = .ok (.istore_n 2, 1) := by decide +kernel
theorem dX6_placeOf_2 : decode cX6_placeOf 2 = .ok (.iload_n 2, 1) := by decide +kernel
theorem dX6_placeOf_3 : decode cX6_placeOf 3 = .ok (.aload_n 0, 1) := by decide +kernel
theorem dX6_placeOf_4 : decode cX6_placeOf 4 = .ok (.getfield 65, 3) := by decide +kernel
theorem dX6_placeOf_7 : decode cX6_placeOf 7 = .ok (.if_icmp .ge 24, 3) := by decide +kernel
theorem dX6_placeOf_10 : decode cX6_placeOf 10 = .ok (.aload_n 0, 1) := by decide +kernel
theorem dX6_placeOf_11 : decode cX6_placeOf 11 = .ok (.getfield 38, 3) := by decide +kernel
theorem dX6_placeOf_14 : decode cX6_placeOf 14 = .ok (.iload_n 2, 1) := by decide +kernel
theorem dX6_placeOf_15 : decode cX6_placeOf 15 = .ok (.aaload, 1) := by decide +kernel
theorem dX6_placeOf_16 : decode cX6_placeOf 16 = .ok (.getfield 80, 3) := by decide +kernel
theorem dX6_placeOf_19 : decode cX6_placeOf 19 = .ok (.iload_n 1, 1) := by decide +kernel
theorem dX6_placeOf_20 : decode cX6_placeOf 20 = .ok (.if_icmp .ne 5, 3) := by decide +kernel
theorem dX6_placeOf_23 : decode cX6_placeOf 23 = .ok (.iload_n 2, 1) := by decide +kernel
theorem dX6_placeOf_24 : decode cX6_placeOf 24 = .ok (.ireturn, 1) := by decide +kernel
theorem dX6_placeOf_25 : decode cX6_placeOf 25 = .ok (.iinc 2 1, 3) := by decide +kernel
theorem dX6_placeOf_28 : decode cX6_placeOf 28 = .ok (.goto (-26), 3) := by decide +kernel
theorem dX6_placeOf_31 : decode cX6_placeOf 31 = .ok (.iconst (-1), 1) := by decide +kernel
theorem dX6_placeOf_32 : decode cX6_placeOf 32 = .ok (.ireturn, 1) := by decide +kernel
theorem dX6_gapBetween_0 : decode cX6_gapBetween 0 = .ok (.aload_n 0, 1) := by decide +kernel
theorem dX6_gapBetween_1 : decode cX6_gapBetween 1 = .ok (.getfield 38, 3) := by decide +kernel
theorem dX6_gapBetween_4 : decode cX6_gapBetween 4 = .ok (.iload_n 1, 1) := by decide +kernel
theorem dX6_gapBetween_5 : decode cX6_gapBetween 5 = .ok (.aaload, 1) := by decide +kernel
theorem dX6_gapBetween_6 : decode cX6_gapBetween 6 = .ok (.invokevirtual 83, 3) := by decide +kernel
theorem dX6_gapBetween_9 : decode cX6_gapBetween 9 = .ok (.aload_n 0, 1) := by decide +kernel
theorem dX6_gapBetween_10 : decode cX6_gapBetween 10 = .ok (.getfield 38, 3) := by decide +kernel
theorem dX6_gapBetween_13 : decode cX6_gapBetween 13 = .ok (.iload_n 2, 1) := by decide +kernel
theorem dX6_gapBetween_14 : decode cX6_gapBetween 14 = .ok (.aaload, 1) := by decide +kernel
theorem dX6_gapBetween_15 : decode cX6_gapBetween 15 = .ok (.getfield 87, 3) := by decide +kernel
theorem dX6_gapBetween_18 : decode cX6_gapBetween 18 = .ok (.isub, 1) := by decide +kernel
theorem dX6_gapBetween_19 : decode cX6_gapBetween 19 = .ok (.ireturn, 1) := by decide +kernel
theorem dX6_freeAtEntry_0 : decode cX6_freeAtEntry 0 = .ok (.aload_n 0, 1) := by decide +kernel
theorem dX6_freeAtEntry_1 : decode cX6_freeAtEntry 1 = .ok (.getfield 65, 3) := by decide +kernel
theorem dX6_freeAtEntry_4 : decode cX6_freeAtEntry 4 = .ok (.ifCond .le 20, 3) := by decide +kernel
theorem dX6_freeAtEntry_7 : decode cX6_freeAtEntry 7 = .ok (.aload_n 0, 1) := by decide +kernel
theorem dX6_freeAtEntry_8 : decode cX6_freeAtEntry 8 = .ok (.getfield 38, 3) := by decide +kernel
theorem dX6_freeAtEntry_11 : decode cX6_freeAtEntry 11 = .ok (.aload_n 0, 1) := by decide +kernel
theorem dX6_freeAtEntry_12 : decode cX6_freeAtEntry 12 = .ok (.getfield 65, 3) := by decide +kernel
theorem dX6_freeAtEntry_15 : decode cX6_freeAtEntry 15 = .ok (.iconst 1, 1) := by decide +kernel
theorem dX6_freeAtEntry_16 : decode cX6_freeAtEntry 16 = .ok (.isub, 1) := by decide +kernel
theorem dX6_freeAtEntry_17 : decode cX6_freeAtEntry 17 = .ok (.aaload, 1) := by decide +kernel
theorem dX6_freeAtEntry_18 : decode cX6_freeAtEntry 18 = .ok (.invokevirtual 83, 3) := by decide +kernel
theorem dX6_freeAtEntry_21 : decode cX6_freeAtEntry 21 = .ok (.goto 5, 3) := by decide +kernel
theorem dX6_freeAtEntry_24 : decode cX6_freeAtEntry 24 = .ok (.ldc 90, 2) := by decide +kernel
theorem dX6_freeAtEntry_26 : decode cX6_freeAtEntry 26 = .ok (.ireturn, 1) := by decide +kernel
theorem dX6_beginPart_0 : decode cX6_beginPart 0 = .ok (.aload_n 0, 1) := by decide +kernel
theorem dX6_beginPart_1 : decode cX6_beginPart 1 = .ok (.getfield 65, 3) := by decide +kernel
theorem dX6_beginPart_4 : decode cX6_beginPart 4 = .ok (.bipush 20, 2) := by decide +kernel
theorem dX6_beginPart_6 : decode cX6_beginPart 6 = .ok (.if_icmp .lt 5, 3) := by decide +kernel
theorem dX6_beginPart_9 : decode cX6_beginPart 9 = .ok (.iconst (-1), 1) := by decide +kernel
theorem dX6_beginPart_10 : decode cX6_beginPart 10 = .ok (.ireturn, 1) := by decide +kernel
theorem dX6_beginPart_11 : decode cX6_beginPart 11 = .ok (.aload_n 0, 1) := by decide +kernel
theorem dX6_beginPart_12 : decode cX6_beginPart 12 = .ok (.getfield 71, 3) := by decide +kernel
theorem dX6_beginPart_15 : decode cX6_beginPart 15 = .ok (.istore_n 2, 1) := by decide +kernel
theorem dX6_beginPart_16 : decode cX6_beginPart 16 = .ok (.aload_n 0, 1) := by decide +kernel
theorem dX6_beginPart_17 : decode cX6_beginPart 17 = .ok (.getfield 38, 3) := by decide +kernel
theorem dX6_beginPart_20 : decode cX6_beginPart 20 = .ok (.aload_n 0, 1) := by decide +kernel
theorem dX6_beginPart_21 : decode cX6_beginPart 21 = .ok (.getfield 65, 3) := by decide +kernel
theorem dX6_beginPart_24 : decode cX6_beginPart 24 = .ok (.aaload, 1) := by decide +kernel
theorem dX6_beginPart_25 : decode cX6_beginPart 25 = .ok (.astore_n 3, 1) := by decide +kernel
theorem dX6_beginPart_26 : decode cX6_beginPart 26 = .ok (.aload_n 3, 1) := by decide +kernel
theorem dX6_beginPart_27 : decode cX6_beginPart 27 = .ok (.iload_n 2, 1) := by decide +kernel
theorem dX6_beginPart_28 : decode cX6_beginPart 28 = .ok (.iload_n 1, 1) := by decide +kernel
theorem dX6_beginPart_29 : decode cX6_beginPart 29 = .ok (.invokevirtual 91, 3) := by decide +kernel
theorem dX6_beginPart_32 : decode cX6_beginPart 32 = .ok (.aload_n 0, 1) := by decide +kernel
theorem dX6_beginPart_33 : decode cX6_beginPart 33 = .ok (.getfield 65, 3) := by decide +kernel
theorem dX6_beginPart_36 : decode cX6_beginPart 36 = .ok (.ifCond .le 36, 3) := by decide +kernel
theorem dX6_beginPart_39 : decode cX6_beginPart 39 = .ok (.aload_n 0, 1) := by decide +kernel
theorem dX6_beginPart_40 : decode cX6_beginPart 40 = .ok (.invokevirtual 95, 3) := by decide +kernel
theorem dX6_beginPart_43 : decode cX6_beginPart 43 = .ok (.aload_n 0, 1) := by decide +kernel
theorem dX6_beginPart_44 : decode cX6_beginPart 44 = .ok (.getfield 18, 3) := by decide +kernel
theorem dX6_beginPart_47 : decode cX6_beginPart 47 = .ok (.iconst 5, 1) := by decide +kernel
theorem dX6_beginPart_48 : decode cX6_beginPart 48 = .ok (.iaload, 1) := by decide +kernel
theorem dX6_beginPart_49 : decode cX6_beginPart 49 = .ok (.if_icmp .ge 23, 3) := by decide +kernel
theorem dX6_beginPart_52 : decode cX6_beginPart 52 = .ok (.aload_n 3, 1) := by decide +kernel
theorem dX6_beginPart_53 : decode cX6_beginPart 53 = .ok (.iconst 1, 1) := by decide +kernel
theorem dX6_beginPart_54 : decode cX6_beginPart 54 = .ok (.putfield 98, 3) := by decide +kernel
theorem dX6_beginPart_57 : decode cX6_beginPart 57 = .ok (.aload_n 0, 1) := by decide +kernel
theorem dX6_beginPart_58 : decode cX6_beginPart 58 = .ok (.getfield 38, 3) := by decide +kernel
theorem dX6_beginPart_61 : decode cX6_beginPart 61 = .ok (.aload_n 0, 1) := by decide +kernel
theorem dX6_beginPart_62 : decode cX6_beginPart 62 = .ok (.getfield 65, 3) := by decide +kernel
theorem dX6_beginPart_65 : decode cX6_beginPart 65 = .ok (.iconst 1, 1) := by decide +kernel
theorem dX6_beginPart_66 : decode cX6_beginPart 66 = .ok (.isub, 1) := by decide +kernel
theorem dX6_beginPart_67 : decode cX6_beginPart 67 = .ok (.aaload, 1) := by decide +kernel
theorem dX6_beginPart_68 : decode cX6_beginPart 68 = .ok (.iconst 1, 1) := by decide +kernel
theorem dX6_beginPart_69 : decode cX6_beginPart 69 = .ok (.putfield 98, 3) := by decide +kernel
theorem dX6_beginPart_72 : decode cX6_beginPart 72 = .ok (.aload_n 0, 1) := by decide +kernel
theorem dX6_beginPart_73 : decode cX6_beginPart 73 = .ok (.dup, 1) := by decide +kernel
theorem dX6_beginPart_74 : decode cX6_beginPart 74 = .ok (.getfield 65, 3) := by decide +kernel
theorem dX6_beginPart_77 : decode cX6_beginPart 77 = .ok (.iconst 1, 1) := by decide +kernel
theorem dX6_beginPart_78 : decode cX6_beginPart 78 = .ok (.iadd, 1) := by decide +kernel
theorem dX6_beginPart_79 : decode cX6_beginPart 79 = .ok (.putfield 65, 3) := by decide +kernel
theorem dX6_beginPart_82 : decode cX6_beginPart 82 = .ok (.aload_n 0, 1) := by decide +kernel
theorem dX6_beginPart_83 : decode cX6_beginPart 83 = .ok (.dup, 1) := by decide +kernel
theorem dX6_beginPart_84 : decode cX6_beginPart 84 = .ok (.getfield 71, 3) := by decide +kernel
theorem dX6_beginPart_87 : decode cX6_beginPart 87 = .ok (.iconst 1, 1) := by decide +kernel
theorem dX6_beginPart_88 : decode cX6_beginPart 88 = .ok (.iadd, 1) := by decide +kernel
theorem dX6_beginPart_89 : decode cX6_beginPart 89 = .ok (.putfield 71, 3) := by decide +kernel
theorem dX6_beginPart_92 : decode cX6_beginPart 92 = .ok (.iload_n 2, 1) := by decide +kernel
theorem dX6_beginPart_93 : decode cX6_beginPart 93 = .ok (.ireturn, 1) := by decide +kernel
theorem dX6_ownerOfRead_0 : decode cX6_ownerOfRead 0 = .ok (.aload_n 0, 1) := by decide +kernel
theorem dX6_ownerOfRead_1 : decode cX6_ownerOfRead 1 = .ok (.getfield 18, 3) := by decide +kernel
theorem dX6_ownerOfRead_4 : decode cX6_ownerOfRead 4 = .ok (.iconst 0, 1) := by decide +kernel
theorem dX6_ownerOfRead_5 : decode cX6_ownerOfRead 5 = .ok (.iaload, 1) := by decide +kernel
theorem dX6_ownerOfRead_6 : decode cX6_ownerOfRead 6 = .ok (.istore_n 1, 1) := by decide +kernel
theorem dX6_ownerOfRead_7 : decode cX6_ownerOfRead 7 = .ok (.aconst_null, 1) := by decide +kernel
theorem dX6_ownerOfRead_8 : decode cX6_ownerOfRead 8 = .ok (.astore_n 2, 1) := by decide +kernel
theorem dX6_ownerOfRead_9 : decode cX6_ownerOfRead 9 = .ok (.aconst_null, 1) := by decide +kernel
theorem dX6_ownerOfRead_10 : decode cX6_ownerOfRead 10 = .ok (.astore_n 3, 1) := by decide +kernel
theorem dX6_ownerOfRead_11 : decode cX6_ownerOfRead 11 = .ok (.iconst 0, 1) := by decide +kernel
theorem dX6_ownerOfRead_12 : decode cX6_ownerOfRead 12 = .ok (.istore 4, 2) := by decide +kernel
theorem dX6_ownerOfRead_14 : decode cX6_ownerOfRead 14 = .ok (.iload 4, 2) := by decide +kernel
theorem dX6_ownerOfRead_16 : decode cX6_ownerOfRead 16 = .ok (.aload_n 0, 1) := by decide +kernel
theorem dX6_ownerOfRead_17 : decode cX6_ownerOfRead 17 = .ok (.getfield 65, 3) := by decide +kernel
theorem dX6_ownerOfRead_20 : decode cX6_ownerOfRead 20 = .ok (.if_icmp .ge 65, 3) := by decide +kernel
theorem dX6_ownerOfRead_23 : decode cX6_ownerOfRead 23 = .ok (.aload_n 0, 1) := by decide +kernel
theorem dX6_ownerOfRead_24 : decode cX6_ownerOfRead 24 = .ok (.getfield 38, 3) := by decide +kernel
theorem dX6_ownerOfRead_27 : decode cX6_ownerOfRead 27 = .ok (.iload 4, 2) := by decide +kernel
theorem dX6_ownerOfRead_29 : decode cX6_ownerOfRead 29 = .ok (.aaload, 1) := by decide +kernel
theorem dX6_ownerOfRead_30 : decode cX6_ownerOfRead 30 = .ok (.astore 5, 2) := by decide +kernel
theorem dX6_ownerOfRead_32 : decode cX6_ownerOfRead 32 = .ok (.aload 5, 2) := by decide +kernel
theorem dX6_ownerOfRead_34 : decode cX6_ownerOfRead 34 = .ok (.invokevirtual 83, 3) := by decide +kernel
theorem dX6_ownerOfRead_37 : decode cX6_ownerOfRead 37 = .ok (.istore 6, 2) := by decide +kernel
theorem dX6_ownerOfRead_39 : decode cX6_ownerOfRead 39 = .ok (.iload 6, 2) := by decide +kernel
theorem dX6_ownerOfRead_41 : decode cX6_ownerOfRead 41 = .ok (.iload_n 1, 1) := by decide +kernel
theorem dX6_ownerOfRead_42 : decode cX6_ownerOfRead 42 = .ok (.if_icmp .lt 19, 3) := by decide +kernel
theorem dX6_ownerOfRead_45 : decode cX6_ownerOfRead 45 = .ok (.iload 6, 2) := by decide +kernel
theorem dX6_ownerOfRead_47 : decode cX6_ownerOfRead 47 = .ok (.iload_n 1, 1) := by decide +kernel
theorem dX6_ownerOfRead_48 : decode cX6_ownerOfRead 48 = .ok (.aload_n 0, 1) := by decide +kernel
theorem dX6_ownerOfRead_49 : decode cX6_ownerOfRead 49 = .ok (.getfield 18, 3) := by decide +kernel
theorem dX6_ownerOfRead_52 : decode cX6_ownerOfRead 52 = .ok (.iconst 1, 1) := by decide +kernel
theorem dX6_ownerOfRead_53 : decode cX6_ownerOfRead 53 = .ok (.iaload, 1) := by decide +kernel
theorem dX6_ownerOfRead_54 : decode cX6_ownerOfRead 54 = .ok (.iadd, 1) := by decide +kernel
theorem dX6_ownerOfRead_55 : decode cX6_ownerOfRead 55 = .ok (.if_icmp .ge 6, 3) := by decide +kernel
theorem dX6_ownerOfRead_58 : decode cX6_ownerOfRead 58 = .ok (.aload 5, 2) := by decide +kernel
theorem dX6_ownerOfRead_60 : decode cX6_ownerOfRead 60 = .ok (.astore_n 2, 1) := by decide +kernel
theorem dX6_ownerOfRead_61 : decode cX6_ownerOfRead 61 = .ok (.iload 6, 2) := by decide +kernel
theorem dX6_ownerOfRead_63 : decode cX6_ownerOfRead 63 = .ok (.iload_n 1, 1) := by decide +kernel
theorem dX6_ownerOfRead_64 : decode cX6_ownerOfRead 64 = .ok (.if_icmp .ge 15, 3) := by decide +kernel
theorem dX6_ownerOfRead_67 : decode cX6_ownerOfRead 67 = .ok (.aload 5, 2) := by decide +kernel
theorem dX6_ownerOfRead_69 : decode cX6_ownerOfRead 69 = .ok (.getfield 87, 3) := by decide +kernel
theorem dX6_ownerOfRead_72 : decode cX6_ownerOfRead 72 = .ok (.iload_n 1, 1) := by decide +kernel
theorem dX6_ownerOfRead_73 : decode cX6_ownerOfRead 73 = .ok (.if_icmp .lt 6, 3) := by decide +kernel
theorem dX6_ownerOfRead_76 : decode cX6_ownerOfRead 76 = .ok (.aload 5, 2) := by decide +kernel
theorem dX6_ownerOfRead_78 : decode cX6_ownerOfRead 78 = .ok (.astore_n 3, 1) := by decide +kernel
theorem dX6_ownerOfRead_79 : decode cX6_ownerOfRead 79 = .ok (.iinc 4 1, 3) := by decide +kernel
theorem dX6_ownerOfRead_82 : decode cX6_ownerOfRead 82 = .ok (.goto (-68), 3) := by decide +kernel
theorem dX6_ownerOfRead_85 : decode cX6_ownerOfRead 85 = .ok (.aload_n 2, 1) := by decide +kernel
theorem dX6_ownerOfRead_86 : decode cX6_ownerOfRead 86 = .ok (.ifnull 17, 3) := by decide +kernel
theorem dX6_ownerOfRead_89 : decode cX6_ownerOfRead 89 = .ok (.aload_n 2, 1) := by decide +kernel
theorem dX6_ownerOfRead_90 : decode cX6_ownerOfRead 90 = .ok (.getfield 102, 3) := by decide +kernel
theorem dX6_ownerOfRead_93 : decode cX6_ownerOfRead 93 = .ok (.iconst (-1), 1) := by decide +kernel
theorem dX6_ownerOfRead_94 : decode cX6_ownerOfRead 94 = .ok (.if_icmp .eq 7, 3) := by decide +kernel
theorem dX6_ownerOfRead_97 : decode cX6_ownerOfRead 97 = .ok (.aload_n 3, 1) := by decide +kernel
theorem dX6_ownerOfRead_98 : decode cX6_ownerOfRead 98 = .ok (.ifnonnull 5, 3) := by decide +kernel
theorem dX6_ownerOfRead_101 : decode cX6_ownerOfRead 101 = .ok (.aload_n 2, 1) := by decide +kernel
theorem dX6_ownerOfRead_102 : decode cX6_ownerOfRead 102 = .ok (.areturn, 1) := by decide +kernel
theorem dX6_ownerOfRead_103 : decode cX6_ownerOfRead 103 = .ok (.aload_n 3, 1) := by decide +kernel
theorem dX6_ownerOfRead_104 : decode cX6_ownerOfRead 104 = .ok (.areturn, 1) := by decide +kernel
theorem dX6_laneOf_0 : decode cX6_laneOf 0 = .ok (.aload_n 1, 1) := by decide +kernel
theorem dX6_laneOf_1 : decode cX6_laneOf 1 = .ok (.getfield 102, 3) := by decide +kernel
theorem dX6_laneOf_4 : decode cX6_laneOf 4 = .ok (.iconst (-1), 1) := by decide +kernel
theorem dX6_laneOf_5 : decode cX6_laneOf 5 = .ok (.if_icmp .eq 17, 3) := by decide +kernel
theorem dX6_laneOf_8 : decode cX6_laneOf 8 = .ok (.aload_n 1, 1) := by decide +kernel
theorem dX6_laneOf_9 : decode cX6_laneOf 9 = .ok (.getfield 105, 3) := by decide +kernel
theorem dX6_laneOf_12 : decode cX6_laneOf 12 = .ok (.ifCond .ne 10, 3) := by decide +kernel
theorem dX6_laneOf_15 : decode cX6_laneOf 15 = .ok (.aload_n 1, 1) := by decide +kernel
theorem dX6_laneOf_16 : decode cX6_laneOf 16 = .ok (.getfield 98, 3) := by decide +kernel
theorem dX6_laneOf_19 : decode cX6_laneOf 19 = .ok (.ifCond .eq 5, 3) := by decide +kernel
theorem dX6_laneOf_22 : decode cX6_laneOf 22 = .ok (.iconst (-1), 1) := by decide +kernel
theorem dX6_laneOf_23 : decode cX6_laneOf 23 = .ok (.ireturn, 1) := by decide +kernel
theorem dX6_laneOf_24 : decode cX6_laneOf 24 = .ok (.aload_n 0, 1) := by decide +kernel
theorem dX6_laneOf_25 : decode cX6_laneOf 25 = .ok (.aload_n 1, 1) := by decide +kernel
theorem dX6_laneOf_26 : decode cX6_laneOf 26 = .ok (.getfield 102, 3) := by decide +kernel
theorem dX6_laneOf_29 : decode cX6_laneOf 29 = .ok (.aload_n 1, 1) := by decide +kernel
theorem dX6_laneOf_30 : decode cX6_laneOf 30 = .ok (.getfield 108, 3) := by decide +kernel
theorem dX6_laneOf_33 : decode cX6_laneOf 33 = .ok (.invokevirtual 111, 3) := by decide +kernel
theorem dX6_laneOf_36 : decode cX6_laneOf 36 = .ok (.ireturn, 1) := by decide +kernel
theorem dX6_laneGiven_0 : decode cX6_laneGiven 0 = .ok (.aload_n 0, 1) := by decide +kernel
theorem dX6_laneGiven_1 : decode cX6_laneGiven 1 = .ok (.getfield 32, 3) := by decide +kernel
theorem dX6_laneGiven_4 : decode cX6_laneGiven 4 = .ok (.iload_n 1, 1) := by decide +kernel
theorem dX6_laneGiven_5 : decode cX6_laneGiven 5 = .ok (.invokevirtual 115, 3) := by decide +kernel
theorem dX6_laneGiven_8 : decode cX6_laneGiven 8 = .ok (.istore_n 3, 1) := by decide +kernel
theorem dX6_laneGiven_9 : decode cX6_laneGiven 9 = .ok (.iload_n 3, 1) := by decide +kernel
theorem dX6_laneGiven_10 : decode cX6_laneGiven 10 = .ok (.iconst (-1), 1) := by decide +kernel
theorem dX6_laneGiven_11 : decode cX6_laneGiven 11 = .ok (.if_icmp .ne 13, 3) := by decide +kernel
theorem dX6_laneGiven_14 : decode cX6_laneGiven 14 = .ok (.aload_n 0, 1) := by decide +kernel
theorem dX6_laneGiven_15 : decode cX6_laneGiven 15 = .ok (.getfield 42, 3) := by decide +kernel
theorem dX6_laneGiven_18 : decode cX6_laneGiven 18 = .ok (.iload_n 1, 1) := by decide +kernel
theorem dX6_laneGiven_19 : decode cX6_laneGiven 19 = .ok (.iload_n 2, 1) := by decide +kernel
theorem dX6_laneGiven_20 : decode cX6_laneGiven 20 = .ok (.invokevirtual 119, 3) := by decide +kernel
theorem dX6_laneGiven_23 : decode cX6_laneGiven 23 = .ok (.istore_n 3, 1) := by decide +kernel
theorem dX6_laneGiven_24 : decode cX6_laneGiven 24 = .ok (.aload_n 0, 1) := by decide +kernel
theorem dX6_laneGiven_25 : decode cX6_laneGiven 25 = .ok (.iload_n 3, 1) := by decide +kernel
theorem dX6_laneGiven_26 : decode cX6_laneGiven 26 = .ok (.invokevirtual 124, 3) := by decide +kernel
theorem dX6_laneGiven_29 : decode cX6_laneGiven 29 = .ok (.ifCond .eq 7, 3) := by decide +kernel
theorem dX6_laneGiven_32 : decode cX6_laneGiven 32 = .ok (.iload_n 3, 1) := by decide +kernel
theorem dX6_laneGiven_33 : decode cX6_laneGiven 33 = .ok (.goto 4, 3) := by decide +kernel
theorem dX6_laneGiven_36 : decode cX6_laneGiven 36 = .ok (.iconst (-1), 1) := by decide +kernel
theorem dX6_laneGiven_37 : decode cX6_laneGiven 37 = .ok (.ireturn, 1) := by decide +kernel
theorem dX6_aimParts_0 : decode cX6_aimParts 0 = .ok (.iconst 0, 1) := by decide +kernel
theorem dX6_aimParts_1 : decode cX6_aimParts 1 = .ok (.istore_n 1, 1) := by decide +kernel
theorem dX6_aimParts_2 : decode cX6_aimParts 2 = .ok (.iload_n 1, 1) := by decide +kernel
theorem dX6_aimParts_3 : decode cX6_aimParts 3 = .ok (.aload_n 0, 1) := by decide +kernel
theorem dX6_aimParts_4 : decode cX6_aimParts 4 = .ok (.getfield 65, 3) := by decide +kernel
theorem dX6_aimParts_7 : decode cX6_aimParts 7 = .ok (.if_icmp .ge 28, 3) := by decide +kernel
theorem dX6_aimParts_10 : decode cX6_aimParts 10 = .ok (.aload_n 0, 1) := by decide +kernel
theorem dX6_aimParts_11 : decode cX6_aimParts 11 = .ok (.getfield 38, 3) := by decide +kernel
theorem dX6_aimParts_14 : decode cX6_aimParts 14 = .ok (.iload_n 1, 1) := by decide +kernel
theorem dX6_aimParts_15 : decode cX6_aimParts 15 = .ok (.aaload, 1) := by decide +kernel
theorem dX6_aimParts_16 : decode cX6_aimParts 16 = .ok (.aload_n 0, 1) := by decide +kernel
theorem dX6_aimParts_17 : decode cX6_aimParts 17 = .ok (.aload_n 0, 1) := by decide +kernel
theorem dX6_aimParts_18 : decode cX6_aimParts 18 = .ok (.getfield 38, 3) := by decide +kernel
theorem dX6_aimParts_21 : decode cX6_aimParts 21 = .ok (.iload_n 1, 1) := by decide +kernel
theorem dX6_aimParts_22 : decode cX6_aimParts 22 = .ok (.aaload, 1) := by decide +kernel
theorem dX6_aimParts_23 : decode cX6_aimParts 23 = .ok (.invokevirtual 128, 3) := by decide +kernel
theorem dX6_aimParts_26 : decode cX6_aimParts 26 = .ok (.putfield 131, 3) := by decide +kernel
theorem dX6_aimParts_29 : decode cX6_aimParts 29 = .ok (.iinc 1 1, 3) := by decide +kernel
theorem dX6_aimParts_32 : decode cX6_aimParts 32 = .ok (.goto (-30), 3) := by decide +kernel
theorem dX6_aimParts_35 : decode cX6_aimParts 35 = .ok (.aload_n 0, 1) := by decide +kernel
theorem dX6_aimParts_36 : decode cX6_aimParts 36 = .ok (.iconst 0, 1) := by decide +kernel
theorem dX6_aimParts_37 : decode cX6_aimParts 37 = .ok (.putfield 134, 3) := by decide +kernel
theorem dX6_aimParts_40 : decode cX6_aimParts 40 = .ok (.return_, 1) := by decide +kernel
theorem dX6_stride_0 : decode cX6_stride 0 = .ok (.aload_n 0, 1) := by decide +kernel
theorem dX6_stride_1 : decode cX6_stride 1 = .ok (.getfield 134, 3) := by decide +kernel
theorem dX6_stride_4 : decode cX6_stride 4 = .ok (.ifCond .eq 20, 3) := by decide +kernel
theorem dX6_stride_7 : decode cX6_stride 7 = .ok (.iconst 0, 1) := by decide +kernel
theorem dX6_stride_8 : decode cX6_stride 8 = .ok (.aload_n 0, 1) := by decide +kernel
theorem dX6_stride_9 : decode cX6_stride 9 = .ok (.invokevirtual 137, 3) := by decide +kernel
theorem dX6_stride_12 : decode cX6_stride 12 = .ok (.iload_n 1, 1) := by decide +kernel
theorem dX6_stride_13 : decode cX6_stride 13 = .ok (.iconst 1, 1) := by decide +kernel
theorem dX6_stride_14 : decode cX6_stride 14 = .ok (.isub, 1) := by decide +kernel
theorem dX6_stride_15 : decode cX6_stride 15 = .ok (.invokestatic 140, 3) := by decide +kernel
theorem dX6_stride_18 : decode cX6_stride 18 = .ok (.invokestatic 145, 3) := by decide +kernel
theorem dX6_stride_21 : decode cX6_stride 21 = .ok (.goto 4, 3) := by decide +kernel
theorem dX6_stride_24 : decode cX6_stride 24 = .ok (.iconst 0, 1) := by decide +kernel
theorem dX6_stride_25 : decode cX6_stride 25 = .ok (.istore_n 2, 1) := by decide +kernel
theorem dX6_stride_26 : decode cX6_stride 26 = .ok (.aload_n 0, 1) := by decide +kernel
theorem dX6_stride_27 : decode cX6_stride 27 = .ok (.iload_n 2, 1) := by decide +kernel
theorem dX6_stride_28 : decode cX6_stride 28 = .ok (.iconst 1, 1) := by decide +kernel
theorem dX6_stride_29 : decode cX6_stride 29 = .ok (.iadd, 1) := by decide +kernel
theorem dX6_stride_30 : decode cX6_stride 30 = .ok (.invokevirtual 148, 3) := by decide +kernel
theorem dX6_stride_33 : decode cX6_stride 33 = .ok (.aload_n 0, 1) := by decide +kernel
theorem dX6_stride_34 : decode cX6_stride 34 = .ok (.getfield 65, 3) := by decide +kernel
theorem dX6_stride_37 : decode cX6_stride 37 = .ok (.istore_n 3, 1) := by decide +kernel
theorem dX6_stride_38 : decode cX6_stride 38 = .ok (.aload_n 0, 1) := by decide +kernel
theorem dX6_stride_39 : decode cX6_stride 39 = .ok (.invokevirtual 152, 3) := by decide +kernel
theorem dX6_stride_42 : decode cX6_stride 42 = .ok (.aload_n 0, 1) := by decide +kernel
theorem dX6_stride_43 : decode cX6_stride 43 = .ok (.invokevirtual 155, 3) := by decide +kernel
theorem dX6_stride_46 : decode cX6_stride 46 = .ok (.aload_n 0, 1) := by decide +kernel
theorem dX6_stride_47 : decode cX6_stride 47 = .ok (.aload_n 0, 1) := by decide +kernel
theorem dX6_stride_48 : decode cX6_stride 48 = .ok (.getfield 65, 3) := by decide +kernel
theorem dX6_stride_51 : decode cX6_stride 51 = .ok (.iload_n 3, 1) := by decide +kernel
theorem dX6_stride_52 : decode cX6_stride 52 = .ok (.if_icmp .ne 7, 3) := by decide +kernel
theorem dX6_stride_55 : decode cX6_stride 55 = .ok (.iconst 1, 1) := by decide +kernel
theorem dX6_stride_56 : decode cX6_stride 56 = .ok (.goto 4, 3) := by decide +kernel
theorem dX6_stride_59 : decode cX6_stride 59 = .ok (.iconst 0, 1) := by decide +kernel
theorem dX6_stride_60 : decode cX6_stride 60 = .ok (.putfield 134, 3) := by decide +kernel
theorem dX6_stride_63 : decode cX6_stride 63 = .ok (.iload_n 2, 1) := by decide +kernel
theorem dX6_stride_64 : decode cX6_stride 64 = .ok (.iconst 1, 1) := by decide +kernel
theorem dX6_stride_65 : decode cX6_stride 65 = .ok (.iadd, 1) := by decide +kernel
theorem dX6_stride_66 : decode cX6_stride 66 = .ok (.ireturn, 1) := by decide +kernel
theorem dX6_quietMillimeters_0 : decode cX6_quietMillimeters 0 = .ok (.ldc 90, 2) := by decide +kernel
theorem dX6_quietMillimeters_2 : decode cX6_quietMillimeters 2 = .ok (.istore_n 1, 1) := by decide +kernel
theorem dX6_quietMillimeters_3 : decode cX6_quietMillimeters 3 = .ok (.iconst 0, 1) := by decide +kernel
theorem dX6_quietMillimeters_4 : decode cX6_quietMillimeters 4 = .ok (.istore_n 2, 1) := by decide +kernel
theorem dX6_quietMillimeters_5 : decode cX6_quietMillimeters 5 = .ok (.iload_n 2, 1) := by decide +kernel
theorem dX6_quietMillimeters_6 : decode cX6_quietMillimeters 6 = .ok (.aload_n 0, 1) := by decide +kernel
theorem dX6_quietMillimeters_7 : decode cX6_quietMillimeters 7 = .ok (.getfield 65, 3) := by decide +kernel
theorem dX6_quietMillimeters_10 : decode cX6_quietMillimeters 10 = .ok (.if_icmp .ge 78, 3) := by decide +kernel
theorem dX6_quietMillimeters_13 : decode cX6_quietMillimeters 13 = .ok (.aload_n 0, 1) := by decide +kernel
theorem dX6_quietMillimeters_14 : decode cX6_quietMillimeters 14 = .ok (.getfield 38, 3) := by decide +kernel
theorem dX6_quietMillimeters_17 : decode cX6_quietMillimeters 17 = .ok (.iload_n 2, 1) := by decide +kernel
theorem dX6_quietMillimeters_18 : decode cX6_quietMillimeters 18 = .ok (.aaload, 1) := by decide +kernel
theorem dX6_quietMillimeters_19 : decode cX6_quietMillimeters 19 = .ok (.astore_n 3, 1) := by decide +kernel
theorem dX6_quietMillimeters_20 : decode cX6_quietMillimeters 20 = .ok (.iload_n 1, 1) := by decide +kernel
theorem dX6_quietMillimeters_21 : decode cX6_quietMillimeters 21 = .ok (.aload_n 0, 1) := by decide +kernel
theorem dX6_quietMillimeters_22 : decode cX6_quietMillimeters 22 = .ok (.getfield 18, 3) := by decide +kernel
theorem dX6_quietMillimeters_25 : decode cX6_quietMillimeters 25 = .ok (.iconst 4, 1) := by decide +kernel
theorem dX6_quietMillimeters_26 : decode cX6_quietMillimeters 26 = .ok (.iaload, 1) := by decide +kernel
theorem dX6_quietMillimeters_27 : decode cX6_quietMillimeters 27 = .ok (.iconst 1, 1) := by decide +kernel
theorem dX6_quietMillimeters_28 : decode cX6_quietMillimeters 28 = .ok (.isub, 1) := by decide +kernel
theorem dX6_quietMillimeters_29 : decode cX6_quietMillimeters 29 = .ok (.aload_n 3, 1) := by decide +kernel
theorem dX6_quietMillimeters_30 : decode cX6_quietMillimeters 30 = .ok (.getfield 87, 3) := by decide +kernel
theorem dX6_quietMillimeters_33 : decode cX6_quietMillimeters 33 = .ok (.isub, 1) := by decide +kernel
theorem dX6_quietMillimeters_34 : decode cX6_quietMillimeters 34 = .ok (.invokestatic 140, 3) := by decide +kernel
theorem dX6_quietMillimeters_37 : decode cX6_quietMillimeters 37 = .ok (.istore_n 1, 1) := by decide +kernel
theorem dX6_quietMillimeters_38 : decode cX6_quietMillimeters 38 = .ok (.aload_n 0, 1) := by decide +kernel
theorem dX6_quietMillimeters_39 : decode cX6_quietMillimeters 39 = .ok (.aload_n 3, 1) := by decide +kernel
theorem dX6_quietMillimeters_40 : decode cX6_quietMillimeters 40 = .ok (.getfield 131, 3) := by decide +kernel
theorem dX6_quietMillimeters_43 : decode cX6_quietMillimeters 43 = .ok (.invokevirtual 124, 3) := by decide +kernel
theorem dX6_quietMillimeters_46 : decode cX6_quietMillimeters 46 = .ok (.ifCond .eq 36, 3) := by decide +kernel
theorem dX6_quietMillimeters_49 : decode cX6_quietMillimeters 49 = .ok (.aload_n 0, 1) := by decide +kernel
theorem dX6_quietMillimeters_50 : decode cX6_quietMillimeters 50 = .ok (.getfield 25, 3) := by decide +kernel
theorem dX6_quietMillimeters_53 : decode cX6_quietMillimeters 53 = .ok (.aload_n 3, 1) := by decide +kernel
theorem dX6_quietMillimeters_54 : decode cX6_quietMillimeters 54 = .ok (.getfield 131, 3) := by decide +kernel
theorem dX6_quietMillimeters_57 : decode cX6_quietMillimeters 57 = .ok (.aaload, 1) := by decide +kernel
theorem dX6_quietMillimeters_58 : decode cX6_quietMillimeters 58 = .ok (.getfield 158, 3) := by decide +kernel
theorem dX6_quietMillimeters_61 : decode cX6_quietMillimeters 61 = .ok (.iconst 1, 1) := by decide +kernel
theorem dX6_quietMillimeters_62 : decode cX6_quietMillimeters 62 = .ok (.isub, 1) := by decide +kernel
theorem dX6_quietMillimeters_63 : decode cX6_quietMillimeters 63 = .ok (.aload_n 3, 1) := by decide +kernel
theorem dX6_quietMillimeters_64 : decode cX6_quietMillimeters 64 = .ok (.invokevirtual 161, 3) := by decide +kernel
theorem dX6_quietMillimeters_67 : decode cX6_quietMillimeters 67 = .ok (.isub, 1) := by decide +kernel
theorem dX6_quietMillimeters_68 : decode cX6_quietMillimeters 68 = .ok (.istore 4, 2) := by decide +kernel
theorem dX6_quietMillimeters_70 : decode cX6_quietMillimeters 70 = .ok (.iload 4, 2) := by decide +kernel
theorem dX6_quietMillimeters_72 : decode cX6_quietMillimeters 72 = .ok (.ifCond .lt 10, 3) := by decide +kernel
theorem dX6_quietMillimeters_75 : decode cX6_quietMillimeters 75 = .ok (.iload_n 1, 1) := by decide +kernel
theorem dX6_quietMillimeters_76 : decode cX6_quietMillimeters 76 = .ok (.iload 4, 2) := by decide +kernel
theorem dX6_quietMillimeters_78 : decode cX6_quietMillimeters 78 = .ok (.invokestatic 140, 3) := by decide +kernel
theorem dX6_quietMillimeters_81 : decode cX6_quietMillimeters 81 = .ok (.istore_n 1, 1) := by decide +kernel
theorem dX6_quietMillimeters_82 : decode cX6_quietMillimeters 82 = .ok (.iinc 2 1, 3) := by decide +kernel
theorem dX6_quietMillimeters_85 : decode cX6_quietMillimeters 85 = .ok (.goto (-80), 3) := by decide +kernel
theorem dX6_quietMillimeters_88 : decode cX6_quietMillimeters 88 = .ok (.iload_n 1, 1) := by decide +kernel
theorem dX6_quietMillimeters_89 : decode cX6_quietMillimeters 89 = .ok (.ireturn, 1) := by decide +kernel
theorem dX6_advance_0 : decode cX6_advance 0 = .ok (.aload_n 0, 1) := by decide +kernel
theorem dX6_advance_1 : decode cX6_advance 1 = .ok (.dup, 1) := by decide +kernel
theorem dX6_advance_2 : decode cX6_advance 2 = .ok (.getfield 74, 3) := by decide +kernel
theorem dX6_advance_5 : decode cX6_advance 5 = .ok (.iload_n 1, 1) := by decide +kernel
theorem dX6_advance_6 : decode cX6_advance 6 = .ok (.iadd, 1) := by decide +kernel
theorem dX6_advance_7 : decode cX6_advance 7 = .ok (.putfield 74, 3) := by decide +kernel
theorem dX6_advance_10 : decode cX6_advance 10 = .ok (.iconst 0, 1) := by decide +kernel
theorem dX6_advance_11 : decode cX6_advance 11 = .ok (.istore_n 2, 1) := by decide +kernel
theorem dX6_advance_12 : decode cX6_advance 12 = .ok (.iload_n 2, 1) := by decide +kernel
theorem dX6_advance_13 : decode cX6_advance 13 = .ok (.aload_n 0, 1) := by decide +kernel
theorem dX6_advance_14 : decode cX6_advance 14 = .ok (.getfield 65, 3) := by decide +kernel
theorem dX6_advance_17 : decode cX6_advance 17 = .ok (.if_icmp .ge 24, 3) := by decide +kernel
theorem dX6_advance_20 : decode cX6_advance 20 = .ok (.aload_n 0, 1) := by decide +kernel
theorem dX6_advance_21 : decode cX6_advance 21 = .ok (.getfield 38, 3) := by decide +kernel
theorem dX6_advance_24 : decode cX6_advance 24 = .ok (.iload_n 2, 1) := by decide +kernel
theorem dX6_advance_25 : decode cX6_advance 25 = .ok (.aaload, 1) := by decide +kernel
theorem dX6_advance_26 : decode cX6_advance 26 = .ok (.dup, 1) := by decide +kernel
theorem dX6_advance_27 : decode cX6_advance 27 = .ok (.getfield 87, 3) := by decide +kernel
theorem dX6_advance_30 : decode cX6_advance 30 = .ok (.iload_n 1, 1) := by decide +kernel
theorem dX6_advance_31 : decode cX6_advance 31 = .ok (.iadd, 1) := by decide +kernel
theorem dX6_advance_32 : decode cX6_advance 32 = .ok (.putfield 87, 3) := by decide +kernel
theorem dX6_advance_35 : decode cX6_advance 35 = .ok (.iinc 2 1, 3) := by decide +kernel
theorem dX6_advance_38 : decode cX6_advance 38 = .ok (.goto (-26), 3) := by decide +kernel
theorem dX6_advance_41 : decode cX6_advance 41 = .ok (.return_, 1) := by decide +kernel
theorem dX6_divertParts_0 : decode cX6_divertParts 0 = .ok (.iconst 0, 1) := by decide +kernel
theorem dX6_divertParts_1 : decode cX6_divertParts 1 = .ok (.istore_n 1, 1) := by decide +kernel
theorem dX6_divertParts_2 : decode cX6_divertParts 2 = .ok (.aload_n 0, 1) := by decide +kernel
theorem dX6_divertParts_3 : decode cX6_divertParts 3 = .ok (.getfield 65, 3) := by decide +kernel
theorem dX6_divertParts_6 : decode cX6_divertParts 6 = .ok (.istore_n 2, 1) := by decide +kernel
theorem dX6_divertParts_7 : decode cX6_divertParts 7 = .ok (.iload_n 2, 1) := by decide +kernel
theorem dX6_divertParts_8 : decode cX6_divertParts 8 = .ok (.ifCond .le 40, 3) := by decide +kernel
theorem dX6_divertParts_11 : decode cX6_divertParts 11 = .ok (.aload_n 0, 1) := by decide +kernel
theorem dX6_divertParts_12 : decode cX6_divertParts 12 = .ok (.iload_n 1, 1) := by decide +kernel
theorem dX6_divertParts_13 : decode cX6_divertParts 13 = .ok (.invokevirtual 164, 3) := by decide +kernel
theorem dX6_divertParts_16 : decode cX6_divertParts 16 = .ok (.ifCond .eq 23, 3) := by decide +kernel
theorem dX6_divertParts_19 : decode cX6_divertParts 19 = .ok (.aload_n 0, 1) := by decide +kernel
theorem dX6_divertParts_20 : decode cX6_divertParts 20 = .ok (.iload_n 1, 1) := by decide +kernel
theorem dX6_divertParts_21 : decode cX6_divertParts 21 = .ok (.bipush 10, 2) := by decide +kernel
theorem dX6_divertParts_23 : decode cX6_divertParts 23 = .ok (.aload_n 0, 1) := by decide +kernel
theorem dX6_divertParts_24 : decode cX6_divertParts 24 = .ok (.getfield 38, 3) := by decide +kernel
theorem dX6_divertParts_27 : decode cX6_divertParts 27 = .ok (.iload_n 1, 1) := by decide +kernel
theorem dX6_divertParts_28 : decode cX6_divertParts 28 = .ok (.aaload, 1) := by decide +kernel
theorem dX6_divertParts_29 : decode cX6_divertParts 29 = .ok (.getfield 131, 3) := by decide +kernel
theorem dX6_divertParts_32 : decode cX6_divertParts 32 = .ok (.iadd, 1) := by decide +kernel
theorem dX6_divertParts_33 : decode cX6_divertParts 33 = .ok (.invokevirtual 167, 3) := by decide +kernel
theorem dX6_divertParts_36 : decode cX6_divertParts 36 = .ok (.goto 6, 3) := by decide +kernel
theorem dX6_divertParts_39 : decode cX6_divertParts 39 = .ok (.iinc 1 1, 3) := by decide +kernel
theorem dX6_divertParts_42 : decode cX6_divertParts 42 = .ok (.iinc 2 (-1), 3) := by decide +kernel
theorem dX6_divertParts_45 : decode cX6_divertParts 45 = .ok (.goto (-38), 3) := by decide +kernel
theorem dX6_divertParts_48 : decode cX6_divertParts 48 = .ok (.return_, 1) := by decide +kernel
theorem dX6_diverts_0 : decode cX6_diverts 0 = .ok (.aload_n 0, 1) := by decide +kernel
theorem dX6_diverts_1 : decode cX6_diverts 1 = .ok (.getfield 38, 3) := by decide +kernel
theorem dX6_diverts_4 : decode cX6_diverts 4 = .ok (.iload_n 1, 1) := by decide +kernel
theorem dX6_diverts_5 : decode cX6_diverts 5 = .ok (.aaload, 1) := by decide +kernel
theorem dX6_diverts_6 : decode cX6_diverts 6 = .ok (.astore_n 2, 1) := by decide +kernel
theorem dX6_diverts_7 : decode cX6_diverts 7 = .ok (.aload_n 0, 1) := by decide +kernel
theorem dX6_diverts_8 : decode cX6_diverts 8 = .ok (.aload_n 2, 1) := by decide +kernel
theorem dX6_diverts_9 : decode cX6_diverts 9 = .ok (.getfield 131, 3) := by decide +kernel
theorem dX6_diverts_12 : decode cX6_diverts 12 = .ok (.invokevirtual 124, 3) := by decide +kernel
theorem dX6_diverts_15 : decode cX6_diverts 15 = .ok (.ifCond .ne 5, 3) := by decide +kernel
theorem dX6_diverts_18 : decode cX6_diverts 18 = .ok (.iconst 0, 1) := by decide +kernel
theorem dX6_diverts_19 : decode cX6_diverts 19 = .ok (.ireturn, 1) := by decide +kernel
theorem dX6_diverts_20 : decode cX6_diverts 20 = .ok (.aload_n 0, 1) := by decide +kernel
theorem dX6_diverts_21 : decode cX6_diverts 21 = .ok (.getfield 25, 3) := by decide +kernel
theorem dX6_diverts_24 : decode cX6_diverts 24 = .ok (.aload_n 2, 1) := by decide +kernel
theorem dX6_diverts_25 : decode cX6_diverts 25 = .ok (.getfield 131, 3) := by decide +kernel
theorem dX6_diverts_28 : decode cX6_diverts 28 = .ok (.aaload, 1) := by decide +kernel
theorem dX6_diverts_29 : decode cX6_diverts 29 = .ok (.astore_n 3, 1) := by decide +kernel
theorem dX6_diverts_30 : decode cX6_diverts 30 = .ok (.aload_n 3, 1) := by decide +kernel
theorem dX6_diverts_31 : decode cX6_diverts 31 = .ok (.aload_n 2, 1) := by decide +kernel
theorem dX6_diverts_32 : decode cX6_diverts 32 = .ok (.invokevirtual 161, 3) := by decide +kernel
theorem dX6_diverts_35 : decode cX6_diverts 35 = .ok (.invokevirtual 170, 3) := by decide +kernel
theorem dX6_diverts_38 : decode cX6_diverts 38 = .ok (.ifCond .ne 5, 3) := by decide +kernel
theorem dX6_diverts_41 : decode cX6_diverts 41 = .ok (.iconst 0, 1) := by decide +kernel
theorem dX6_diverts_42 : decode cX6_diverts 42 = .ok (.ireturn, 1) := by decide +kernel
theorem dX6_diverts_43 : decode cX6_diverts 43 = .ok (.aload_n 0, 1) := by decide +kernel
theorem dX6_diverts_44 : decode cX6_diverts 44 = .ok (.iload_n 1, 1) := by decide +kernel
theorem dX6_diverts_45 : decode cX6_diverts 45 = .ok (.invokevirtual 173, 3) := by decide +kernel
theorem dX6_diverts_48 : decode cX6_diverts 48 = .ok (.ifCond .ne 10, 3) := by decide +kernel
theorem dX6_diverts_51 : decode cX6_diverts 51 = .ok (.aload_n 2, 1) := by decide +kernel
theorem dX6_diverts_52 : decode cX6_diverts 52 = .ok (.iconst 5, 1) := by decide +kernel
theorem dX6_diverts_53 : decode cX6_diverts 53 = .ok (.putfield 176, 3) := by decide +kernel
theorem dX6_diverts_56 : decode cX6_diverts 56 = .ok (.iconst 0, 1) := by decide +kernel
theorem dX6_diverts_57 : decode cX6_diverts 57 = .ok (.ireturn, 1) := by decide +kernel
theorem dX6_diverts_58 : decode cX6_diverts 58 = .ok (.aload_n 3, 1) := by decide +kernel
theorem dX6_diverts_59 : decode cX6_diverts 59 = .ok (.invokevirtual 179, 3) := by decide +kernel
theorem dX6_diverts_62 : decode cX6_diverts 62 = .ok (.ifCond .ne 11, 3) := by decide +kernel
theorem dX6_diverts_65 : decode cX6_diverts 65 = .ok (.aload_n 2, 1) := by decide +kernel
theorem dX6_diverts_66 : decode cX6_diverts 66 = .ok (.bipush 6, 2) := by decide +kernel
theorem dX6_diverts_68 : decode cX6_diverts 68 = .ok (.putfield 176, 3) := by decide +kernel
theorem dX6_diverts_71 : decode cX6_diverts 71 = .ok (.iconst 0, 1) := by decide +kernel
theorem dX6_diverts_72 : decode cX6_diverts 72 = .ok (.ireturn, 1) := by decide +kernel
theorem dX6_diverts_73 : decode cX6_diverts 73 = .ok (.iconst 1, 1) := by decide +kernel
theorem dX6_diverts_74 : decode cX6_diverts 74 = .ok (.ireturn, 1) := by decide +kernel
theorem dX6_hasGaps_0 : decode cX6_hasGaps 0 = .ok (.iload_n 1, 1) := by decide +kernel
theorem dX6_hasGaps_1 : decode cX6_hasGaps 1 = .ok (.ifCond .le 22, 3) := by decide +kernel
theorem dX6_hasGaps_4 : decode cX6_hasGaps 4 = .ok (.aload_n 0, 1) := by decide +kernel
theorem dX6_hasGaps_5 : decode cX6_hasGaps 5 = .ok (.iload_n 1, 1) := by decide +kernel
theorem dX6_hasGaps_6 : decode cX6_hasGaps 6 = .ok (.iconst 1, 1) := by decide +kernel
theorem dX6_hasGaps_7 : decode cX6_hasGaps 7 = .ok (.isub, 1) := by decide +kernel
theorem dX6_hasGaps_8 : decode cX6_hasGaps 8 = .ok (.iload_n 1, 1) := by decide +kernel
theorem dX6_hasGaps_9 : decode cX6_hasGaps 9 = .ok (.invokevirtual 183, 3) := by decide +kernel
theorem dX6_hasGaps_12 : decode cX6_hasGaps 12 = .ok (.aload_n 0, 1) := by decide +kernel
theorem dX6_hasGaps_13 : decode cX6_hasGaps 13 = .ok (.getfield 18, 3) := by decide +kernel
theorem dX6_hasGaps_16 : decode cX6_hasGaps 16 = .ok (.iconst 3, 1) := by decide +kernel
theorem dX6_hasGaps_17 : decode cX6_hasGaps 17 = .ok (.iaload, 1) := by decide +kernel
theorem dX6_hasGaps_18 : decode cX6_hasGaps 18 = .ok (.if_icmp .ge 5, 3) := by decide +kernel
theorem dX6_hasGaps_21 : decode cX6_hasGaps 21 = .ok (.iconst 0, 1) := by decide +kernel
theorem dX6_hasGaps_22 : decode cX6_hasGaps 22 = .ok (.ireturn, 1) := by decide +kernel
theorem dX6_hasGaps_23 : decode cX6_hasGaps 23 = .ok (.iload_n 1, 1) := by decide +kernel
theorem dX6_hasGaps_24 : decode cX6_hasGaps 24 = .ok (.iconst 1, 1) := by decide +kernel
theorem dX6_hasGaps_25 : decode cX6_hasGaps 25 = .ok (.iadd, 1) := by decide +kernel
theorem dX6_hasGaps_26 : decode cX6_hasGaps 26 = .ok (.aload_n 0, 1) := by decide +kernel
theorem dX6_hasGaps_27 : decode cX6_hasGaps 27 = .ok (.getfield 65, 3) := by decide +kernel
theorem dX6_hasGaps_30 : decode cX6_hasGaps 30 = .ok (.if_icmp .ge 20, 3) := by decide +kernel
theorem dX6_hasGaps_33 : decode cX6_hasGaps 33 = .ok (.aload_n 0, 1) := by decide +kernel
theorem dX6_hasGaps_34 : decode cX6_hasGaps 34 = .ok (.iload_n 1, 1) := by decide +kernel
theorem dX6_hasGaps_35 : decode cX6_hasGaps 35 = .ok (.iload_n 1, 1) := by decide +kernel
theorem dX6_hasGaps_36 : decode cX6_hasGaps 36 = .ok (.iconst 1, 1) := by decide +kernel
theorem dX6_hasGaps_37 : decode cX6_hasGaps 37 = .ok (.iadd, 1) := by decide +kernel
theorem dX6_hasGaps_38 : decode cX6_hasGaps 38 = .ok (.invokevirtual 183, 3) := by decide +kernel
theorem dX6_hasGaps_41 : decode cX6_hasGaps 41 = .ok (.aload_n 0, 1) := by decide +kernel
theorem dX6_hasGaps_42 : decode cX6_hasGaps 42 = .ok (.getfield 18, 3) := by decide +kernel
theorem dX6_hasGaps_45 : decode cX6_hasGaps 45 = .ok (.iconst 3, 1) := by decide +kernel
theorem dX6_hasGaps_46 : decode cX6_hasGaps 46 = .ok (.iaload, 1) := by decide +kernel
theorem dX6_hasGaps_47 : decode cX6_hasGaps 47 = .ok (.if_icmp .lt 7, 3) := by decide +kernel
theorem dX6_hasGaps_50 : decode cX6_hasGaps 50 = .ok (.iconst 1, 1) := by decide +kernel
theorem dX6_hasGaps_51 : decode cX6_hasGaps 51 = .ok (.goto 4, 3) := by decide +kernel
theorem dX6_hasGaps_54 : decode cX6_hasGaps 54 = .ok (.iconst 0, 1) := by decide +kernel
theorem dX6_hasGaps_55 : decode cX6_hasGaps 55 = .ok (.ireturn, 1) := by decide +kernel
theorem dX6_loseParts_0 : decode cX6_loseParts 0 = .ok (.aload_n 0, 1) := by decide +kernel
theorem dX6_loseParts_1 : decode cX6_loseParts 1 = .ok (.getfield 65, 3) := by decide +kernel
theorem dX6_loseParts_4 : decode cX6_loseParts 4 = .ok (.istore_n 1, 1) := by decide +kernel
theorem dX6_loseParts_5 : decode cX6_loseParts 5 = .ok (.iload_n 1, 1) := by decide +kernel
theorem dX6_loseParts_6 : decode cX6_loseParts 6 = .ok (.ifCond .le 41, 3) := by decide +kernel
theorem dX6_loseParts_9 : decode cX6_loseParts 9 = .ok (.aload_n 0, 1) := by decide +kernel
theorem dX6_loseParts_10 : decode cX6_loseParts 10 = .ok (.getfield 38, 3) := by decide +kernel
theorem dX6_loseParts_13 : decode cX6_loseParts 13 = .ok (.iconst 0, 1) := by decide +kernel
theorem dX6_loseParts_14 : decode cX6_loseParts 14 = .ok (.aaload, 1) := by decide +kernel
theorem dX6_loseParts_15 : decode cX6_loseParts 15 = .ok (.getfield 87, 3) := by decide +kernel
theorem dX6_loseParts_18 : decode cX6_loseParts 18 = .ok (.aload_n 0, 1) := by decide +kernel
theorem dX6_loseParts_19 : decode cX6_loseParts 19 = .ok (.getfield 18, 3) := by decide +kernel
theorem dX6_loseParts_22 : decode cX6_loseParts 22 = .ok (.iconst 4, 1) := by decide +kernel
theorem dX6_loseParts_23 : decode cX6_loseParts 23 = .ok (.iaload, 1) := by decide +kernel
theorem dX6_loseParts_24 : decode cX6_loseParts 24 = .ok (.if_icmp .lt 23, 3) := by decide +kernel
theorem dX6_loseParts_27 : decode cX6_loseParts 27 = .ok (.aload_n 0, 1) := by decide +kernel
theorem dX6_loseParts_28 : decode cX6_loseParts 28 = .ok (.iconst 0, 1) := by decide +kernel
theorem dX6_loseParts_29 : decode cX6_loseParts 29 = .ok (.aload_n 0, 1) := by decide +kernel
theorem dX6_loseParts_30 : decode cX6_loseParts 30 = .ok (.getfield 38, 3) := by decide +kernel
theorem dX6_loseParts_33 : decode cX6_loseParts 33 = .ok (.iconst 0, 1) := by decide +kernel
theorem dX6_loseParts_34 : decode cX6_loseParts 34 = .ok (.aaload, 1) := by decide +kernel
theorem dX6_loseParts_35 : decode cX6_loseParts 35 = .ok (.invokevirtual 186, 3) := by decide +kernel
theorem dX6_loseParts_38 : decode cX6_loseParts 38 = .ok (.invokevirtual 167, 3) := by decide +kernel
theorem dX6_loseParts_41 : decode cX6_loseParts 41 = .ok (.iinc 1 (-1), 3) := by decide +kernel
theorem dX6_loseParts_44 : decode cX6_loseParts 44 = .ok (.goto (-39), 3) := by decide +kernel
theorem dX6_loseParts_47 : decode cX6_loseParts 47 = .ok (.return_, 1) := by decide +kernel
theorem dX6_leave_0 : decode cX6_leave 0 = .ok (.iload_n 1, 1) := by decide +kernel
theorem dX6_leave_1 : decode cX6_leave 1 = .ok (.ifCond .lt 11, 3) := by decide +kernel
theorem dX6_leave_4 : decode cX6_leave 4 = .ok (.iload_n 1, 1) := by decide +kernel
theorem dX6_leave_5 : decode cX6_leave 5 = .ok (.aload_n 0, 1) := by decide +kernel
theorem dX6_leave_6 : decode cX6_leave 6 = .ok (.getfield 65, 3) := by decide +kernel
theorem dX6_leave_9 : decode cX6_leave 9 = .ok (.if_icmp .lt 4, 3) := by decide +kernel
theorem dX6_leave_12 : decode cX6_leave 12 = .ok (.return_, 1) := by decide +kernel
theorem dX6_leave_13 : decode cX6_leave 13 = .ok (.aload_n 0, 1) := by decide +kernel
theorem dX6_leave_14 : decode cX6_leave 14 = .ok (.getfield 38, 3) := by decide +kernel
theorem dX6_leave_17 : decode cX6_leave 17 = .ok (.iload_n 1, 1) := by decide +kernel
theorem dX6_leave_18 : decode cX6_leave 18 = .ok (.aaload, 1) := by decide +kernel
theorem dX6_leave_19 : decode cX6_leave 19 = .ok (.astore_n 3, 1) := by decide +kernel
theorem dX6_leave_20 : decode cX6_leave 20 = .ok (.aload_n 3, 1) := by decide +kernel
theorem dX6_leave_21 : decode cX6_leave 21 = .ok (.iload_n 2, 1) := by decide +kernel
theorem dX6_leave_22 : decode cX6_leave 22 = .ok (.putfield 189, 3) := by decide +kernel
theorem dX6_leave_25 : decode cX6_leave 25 = .ok (.aload_n 0, 1) := by decide +kernel
theorem dX6_leave_26 : decode cX6_leave 26 = .ok (.dup, 1) := by decide +kernel
theorem dX6_leave_27 : decode cX6_leave 27 = .ok (.getfield 65, 3) := by decide +kernel
theorem dX6_leave_30 : decode cX6_leave 30 = .ok (.iconst 1, 1) := by decide +kernel
theorem dX6_leave_31 : decode cX6_leave 31 = .ok (.isub, 1) := by decide +kernel
theorem dX6_leave_32 : decode cX6_leave 32 = .ok (.putfield 65, 3) := by decide +kernel
theorem dX6_leave_35 : decode cX6_leave 35 = .ok (.iload_n 1, 1) := by decide +kernel
theorem dX6_leave_36 : decode cX6_leave 36 = .ok (.istore 4, 2) := by decide +kernel
theorem dX6_leave_38 : decode cX6_leave 38 = .ok (.iload 4, 2) := by decide +kernel
theorem dX6_leave_40 : decode cX6_leave 40 = .ok (.aload_n 0, 1) := by decide +kernel
theorem dX6_leave_41 : decode cX6_leave 41 = .ok (.getfield 65, 3) := by decide +kernel
theorem dX6_leave_44 : decode cX6_leave 44 = .ok (.if_icmp .ge 25, 3) := by decide +kernel
theorem dX6_leave_47 : decode cX6_leave 47 = .ok (.aload_n 0, 1) := by decide +kernel
theorem dX6_leave_48 : decode cX6_leave 48 = .ok (.getfield 38, 3) := by decide +kernel
theorem dX6_leave_51 : decode cX6_leave 51 = .ok (.iload 4, 2) := by decide +kernel
theorem dX6_leave_53 : decode cX6_leave 53 = .ok (.aload_n 0, 1) := by decide +kernel
theorem dX6_leave_54 : decode cX6_leave 54 = .ok (.getfield 38, 3) := by decide +kernel
theorem dX6_leave_57 : decode cX6_leave 57 = .ok (.iload 4, 2) := by decide +kernel
theorem dX6_leave_59 : decode cX6_leave 59 = .ok (.iconst 1, 1) := by decide +kernel
theorem dX6_leave_60 : decode cX6_leave 60 = .ok (.iadd, 1) := by decide +kernel
theorem dX6_leave_61 : decode cX6_leave 61 = .ok (.aaload, 1) := by decide +kernel
theorem dX6_leave_62 : decode cX6_leave 62 = .ok (.aastore, 1) := by decide +kernel
theorem dX6_leave_63 : decode cX6_leave 63 = .ok (.iinc 4 1, 3) := by decide +kernel
theorem dX6_leave_66 : decode cX6_leave 66 = .ok (.goto (-28), 3) := by decide +kernel
theorem dX6_leave_69 : decode cX6_leave 69 = .ok (.aload_n 0, 1) := by decide +kernel
theorem dX6_leave_70 : decode cX6_leave 70 = .ok (.getfield 38, 3) := by decide +kernel
theorem dX6_leave_73 : decode cX6_leave 73 = .ok (.aload_n 0, 1) := by decide +kernel
theorem dX6_leave_74 : decode cX6_leave 74 = .ok (.getfield 65, 3) := by decide +kernel
theorem dX6_leave_77 : decode cX6_leave 77 = .ok (.aload_n 3, 1) := by decide +kernel
theorem dX6_leave_78 : decode cX6_leave 78 = .ok (.aastore, 1) := by decide +kernel
theorem dX6_leave_79 : decode cX6_leave 79 = .ok (.return_, 1) := by decide +kernel
theorem dX6_rankOf_0 : decode cX6_rankOf 0 = .ok (.iconst 0, 1) := by decide +kernel
theorem dX6_rankOf_1 : decode cX6_rankOf 1 = .ok (.istore_n 2, 1) := by decide +kernel
theorem dX6_rankOf_2 : decode cX6_rankOf 2 = .ok (.aload_n 0, 1) := by decide +kernel
theorem dX6_rankOf_3 : decode cX6_rankOf 3 = .ok (.iload_n 1, 1) := by decide +kernel
theorem dX6_rankOf_4 : decode cX6_rankOf 4 = .ok (.invokevirtual 192, 3) := by decide +kernel
theorem dX6_rankOf_7 : decode cX6_rankOf 7 = .ok (.istore_n 3, 1) := by decide +kernel
theorem dX6_rankOf_8 : decode cX6_rankOf 8 = .ok (.iconst 0, 1) := by decide +kernel
theorem dX6_rankOf_9 : decode cX6_rankOf 9 = .ok (.istore 4, 2) := by decide +kernel
theorem dX6_rankOf_11 : decode cX6_rankOf 11 = .ok (.iload 4, 2) := by decide +kernel
theorem dX6_rankOf_13 : decode cX6_rankOf 13 = .ok (.aload_n 0, 1) := by decide +kernel
theorem dX6_rankOf_14 : decode cX6_rankOf 14 = .ok (.getfield 65, 3) := by decide +kernel
theorem dX6_rankOf_17 : decode cX6_rankOf 17 = .ok (.if_icmp .ge 38, 3) := by decide +kernel
theorem dX6_rankOf_20 : decode cX6_rankOf 20 = .ok (.aload_n 0, 1) := by decide +kernel
theorem dX6_rankOf_21 : decode cX6_rankOf 21 = .ok (.iload 4, 2) := by decide +kernel
theorem dX6_rankOf_23 : decode cX6_rankOf 23 = .ok (.invokevirtual 192, 3) := by decide +kernel
theorem dX6_rankOf_26 : decode cX6_rankOf 26 = .ok (.istore 5, 2) := by decide +kernel
theorem dX6_rankOf_28 : decode cX6_rankOf 28 = .ok (.iload 5, 2) := by decide +kernel
theorem dX6_rankOf_30 : decode cX6_rankOf 30 = .ok (.iload_n 3, 1) := by decide +kernel
theorem dX6_rankOf_31 : decode cX6_rankOf 31 = .ok (.if_icmp .lt 15, 3) := by decide +kernel
theorem dX6_rankOf_34 : decode cX6_rankOf 34 = .ok (.iload 5, 2) := by decide +kernel
theorem dX6_rankOf_36 : decode cX6_rankOf 36 = .ok (.iload_n 3, 1) := by decide +kernel
theorem dX6_rankOf_37 : decode cX6_rankOf 37 = .ok (.if_icmp .ne 12, 3) := by decide +kernel
theorem dX6_rankOf_40 : decode cX6_rankOf 40 = .ok (.iload 4, 2) := by decide +kernel
theorem dX6_rankOf_42 : decode cX6_rankOf 42 = .ok (.iload_n 1, 1) := by decide +kernel
theorem dX6_rankOf_43 : decode cX6_rankOf 43 = .ok (.if_icmp .ge 6, 3) := by decide +kernel
theorem dX6_rankOf_46 : decode cX6_rankOf 46 = .ok (.iinc 2 1, 3) := by decide +kernel
theorem dX6_rankOf_49 : decode cX6_rankOf 49 = .ok (.iinc 4 1, 3) := by decide +kernel
theorem dX6_rankOf_52 : decode cX6_rankOf 52 = .ok (.goto (-41), 3) := by decide +kernel
theorem dX6_rankOf_55 : decode cX6_rankOf 55 = .ok (.iload_n 2, 1) := by decide +kernel
theorem dX6_rankOf_56 : decode cX6_rankOf 56 = .ok (.ireturn, 1) := by decide +kernel
theorem dX6_distanceToLane_0 : decode cX6_distanceToLane 0 = .ok (.aload_n 0, 1) := by decide +kernel
theorem dX6_distanceToLane_1 : decode cX6_distanceToLane 1 = .ok (.getfield 38, 3) := by decide +kernel
theorem dX6_distanceToLane_4 : decode cX6_distanceToLane 4 = .ok (.iload_n 1, 1) := by decide +kernel
theorem dX6_distanceToLane_5 : decode cX6_distanceToLane 5 = .ok (.aaload, 1) := by decide +kernel
theorem dX6_distanceToLane_6 : decode cX6_distanceToLane 6 = .ok (.astore_n 2, 1) := by decide +kernel
theorem dX6_distanceToLane_7 : decode cX6_distanceToLane 7 = .ok (.aload_n 0, 1) := by decide +kernel
theorem dX6_distanceToLane_8 : decode cX6_distanceToLane 8 = .ok (.aload_n 2, 1) := by decide +kernel
theorem dX6_distanceToLane_9 : decode cX6_distanceToLane 9 = .ok (.getfield 131, 3) := by decide +kernel
theorem dX6_distanceToLane_12 : decode cX6_distanceToLane 12 = .ok (.invokevirtual 124, 3) := by decide +kernel
theorem dX6_distanceToLane_15 : decode cX6_distanceToLane 15 = .ok (.ifCond .eq 23, 3) := by decide +kernel
theorem dX6_distanceToLane_18 : decode cX6_distanceToLane 18 = .ok (.aload_n 0, 1) := by decide +kernel
theorem dX6_distanceToLane_19 : decode cX6_distanceToLane 19 = .ok (.getfield 25, 3) := by decide +kernel
theorem dX6_distanceToLane_22 : decode cX6_distanceToLane 22 = .ok (.aload_n 2, 1) := by decide +kernel
theorem dX6_distanceToLane_23 : decode cX6_distanceToLane 23 = .ok (.getfield 131, 3) := by decide +kernel
theorem dX6_distanceToLane_26 : decode cX6_distanceToLane 26 = .ok (.aaload, 1) := by decide +kernel
theorem dX6_distanceToLane_27 : decode cX6_distanceToLane 27 = .ok (.getfield 158, 3) := by decide +kernel
theorem dX6_distanceToLane_30 : decode cX6_distanceToLane 30 = .ok (.aload_n 2, 1) := by decide +kernel
theorem dX6_distanceToLane_31 : decode cX6_distanceToLane 31 = .ok (.invokevirtual 161, 3) := by decide +kernel
theorem dX6_distanceToLane_34 : decode cX6_distanceToLane 34 = .ok (.isub, 1) := by decide +kernel
theorem dX6_distanceToLane_35 : decode cX6_distanceToLane 35 = .ok (.goto 5, 3) := by decide +kernel
theorem dX6_distanceToLane_38 : decode cX6_distanceToLane 38 = .ok (.ldc 90, 2) := by decide +kernel
theorem dX6_distanceToLane_40 : decode cX6_distanceToLane 40 = .ok (.ireturn, 1) := by decide +kernel
theorem dX7_init_0 : decode cX7_init 0 = .ok (.aload_n 0, 1) := by decide +kernel
theorem dX7_init_1 : decode cX7_init 1 = .ok (.invokespecial 1, 3) := by decide +kernel
theorem dX7_init_4 : decode cX7_init 4 = .ok (.aload_n 0, 1) := by decide +kernel
theorem dX7_init_5 : decode cX7_init 5 = .ok (.bipush 6, 2) := by decide +kernel
theorem dX7_init_7 : decode cX7_init 7 = .ok (.anewarray 9, 3) := by decide +kernel
theorem dX7_init_10 : decode cX7_init 10 = .ok (.putfield 11, 3) := by decide +kernel
theorem dX7_init_13 : decode cX7_init 13 = .ok (.aload_n 0, 1) := by decide +kernel
theorem dX7_init_14 : decode cX7_init 14 = .ok (.new 15, 3) := by decide +kernel
theorem dX7_init_17 : decode cX7_init 17 = .ok (.dup, 1) := by decide +kernel
theorem dX7_init_18 : decode cX7_init 18 = .ok (.invokespecial 17, 3) := by decide +kernel
theorem dX7_init_21 : decode cX7_init 21 = .ok (.putfield 18, 3) := by decide +kernel
theorem dX7_init_24 : decode cX7_init 24 = .ok (.aload_n 0, 1) := by decide +kernel
theorem dX7_init_25 : decode cX7_init 25 = .ok (.new 22, 3) := by decide +kernel
theorem dX7_init_28 : decode cX7_init 28 = .ok (.dup, 1) := by decide +kernel
theorem dX7_init_29 : decode cX7_init 29 = .ok (.invokespecial 24, 3) := by decide +kernel
theorem dX7_init_32 : decode cX7_init 32 = .ok (.putfield 25, 3) := by decide +kernel
theorem dX7_init_35 : decode cX7_init 35 = .ok (.aload_n 0, 1) := by decide +kernel
theorem dX7_init_36 : decode cX7_init 36 = .ok (.new 29, 3) := by decide +kernel
theorem dX7_init_39 : decode cX7_init 39 = .ok (.dup, 1) := by decide +kernel
theorem dX7_init_40 : decode cX7_init 40 = .ok (.invokespecial 31, 3) := by decide +kernel
theorem dX7_init_43 : decode cX7_init 43 = .ok (.putfield 32, 3) := by decide +kernel
theorem dX7_init_46 : decode cX7_init 46 = .ok (.new 29, 3) := by decide +kernel
theorem dX7_init_49 : decode cX7_init 49 = .ok (.dup, 1) := by decide +kernel
theorem dX7_init_50 : decode cX7_init 50 = .ok (.invokespecial 31, 3) := by decide +kernel
theorem dX7_init_53 : decode cX7_init 53 = .ok (.astore_n 1, 1) := by decide +kernel
theorem dX7_init_54 : decode cX7_init 54 = .ok (.aload_n 1, 1) := by decide +kernel
theorem dX7_init_55 : decode cX7_init 55 = .ok (.iconst (-1), 1) := by decide +kernel
theorem dX7_init_56 : decode cX7_init 56 = .ok (.invokevirtual 36, 3) := by decide +kernel
theorem dX7_init_59 : decode cX7_init 59 = .ok (.aload_n 0, 1) := by decide +kernel
theorem dX7_init_60 : decode cX7_init 60 = .ok (.new 9, 3) := by decide +kernel
theorem dX7_init_63 : decode cX7_init 63 = .ok (.dup, 1) := by decide +kernel
theorem dX7_init_64 : decode cX7_init 64 = .ok (.aload_n 1, 1) := by decide +kernel
theorem dX7_init_65 : decode cX7_init 65 = .ok (.invokespecial 40, 3) := by decide +kernel
theorem dX7_init_68 : decode cX7_init 68 = .ok (.putfield 43, 3) := by decide +kernel
theorem dX7_init_71 : decode cX7_init 71 = .ok (.aload_n 0, 1) := by decide +kernel
theorem dX7_init_72 : decode cX7_init 72 = .ok (.new 9, 3) := by decide +kernel
theorem dX7_init_75 : decode cX7_init 75 = .ok (.dup, 1) := by decide +kernel
theorem dX7_init_76 : decode cX7_init 76 = .ok (.aload_n 1, 1) := by decide +kernel
theorem dX7_init_77 : decode cX7_init 77 = .ok (.invokespecial 40, 3) := by decide +kernel
theorem dX7_init_80 : decode cX7_init 80 = .ok (.putfield 47, 3) := by decide +kernel
theorem dX7_init_83 : decode cX7_init 83 = .ok (.iconst 0, 1) := by decide +kernel
theorem dX7_init_84 : decode cX7_init 84 = .ok (.istore_n 2, 1) := by decide +kernel
theorem dX7_init_85 : decode cX7_init 85 = .ok (.iload_n 2, 1) := by decide +kernel
theorem dX7_init_86 : decode cX7_init 86 = .ok (.bipush 6, 2) := by decide +kernel
theorem dX7_init_88 : decode cX7_init 88 = .ok (.if_icmp .ge 23, 3) := by decide +kernel
theorem dX7_init_91 : decode cX7_init 91 = .ok (.aload_n 0, 1) := by decide +kernel
theorem dX7_init_92 : decode cX7_init 92 = .ok (.getfield 11, 3) := by decide +kernel
theorem dX7_init_95 : decode cX7_init 95 = .ok (.iload_n 2, 1) := by decide +kernel
theorem dX7_init_96 : decode cX7_init 96 = .ok (.new 9, 3) := by decide +kernel
theorem dX7_init_99 : decode cX7_init 99 = .ok (.dup, 1) := by decide +kernel
theorem dX7_init_100 : decode cX7_init 100 = .ok (.aload_n 1, 1) := by decide +kernel
theorem dX7_init_101 : decode cX7_init 101 = .ok (.invokespecial 40, 3) := by decide +kernel
theorem dX7_init_104 : decode cX7_init 104 = .ok (.aastore, 1) := by decide +kernel
theorem dX7_init_105 : decode cX7_init 105 = .ok (.iinc 2 1, 3) := by decide +kernel
theorem dX7_init_108 : decode cX7_init 108 = .ok (.goto (-23), 3) := by decide +kernel
theorem dX7_init_111 : decode cX7_init 111 = .ok (.return_, 1) := by decide +kernel
theorem dX7_set_0 : decode cX7_set 0 = .ok (.iload_n 1, 1) := by decide +kernel
theorem dX7_set_1 : decode cX7_set 1 = .ok (.ifCond .lt 9, 3) := by decide +kernel
theorem dX7_set_4 : decode cX7_set 4 = .ok (.iload_n 1, 1) := by decide +kernel
theorem dX7_set_5 : decode cX7_set 5 = .ok (.bipush 6, 2) := by decide +kernel
theorem dX7_set_7 : decode cX7_set 7 = .ok (.if_icmp .lt 13, 3) := by decide +kernel
theorem dX7_set_10 : decode cX7_set 10 = .ok (.new 50, 3) := by decide +kernel
theorem dX7_set_13 : decode cX7_set 13 = .ok (.dup, 1) := by decide +kernel
theorem dX7_set_14 : decode cX7_set 14 = .ok (.ldc 52, 2) := by decide +kernel
theorem dX7_set_16 : decode cX7_set 16 = .ok (.invokespecial 54, 3) := by decide +kernel
theorem dX7_set_19 : decode cX7_set 19 = .ok (.athrow, 1) := by decide +kernel
theorem dX7_set_20 : decode cX7_set 20 = .ok (.iload_n 2, 1) := by decide +kernel
theorem dX7_set_21 : decode cX7_set 21 = .ok (.getstatic 57, 3) := by decide +kernel
theorem dX7_set_24 : decode cX7_set 24 = .ok (.iload_n 1, 1) := by decide +kernel
theorem dX7_set_25 : decode cX7_set 25 = .ok (.iaload, 1) := by decide +kernel
theorem dX7_set_26 : decode cX7_set 26 = .ok (.if_icmp .lt 12, 3) := by decide +kernel
theorem dX7_set_29 : decode cX7_set 29 = .ok (.iload_n 2, 1) := by decide +kernel
theorem dX7_set_30 : decode cX7_set 30 = .ok (.getstatic 61, 3) := by decide +kernel
theorem dX7_set_33 : decode cX7_set 33 = .ok (.iload_n 1, 1) := by decide +kernel
theorem dX7_set_34 : decode cX7_set 34 = .ok (.iaload, 1) := by decide +kernel
theorem dX7_set_35 : decode cX7_set 35 = .ok (.if_icmp .le 13, 3) := by decide +kernel
theorem dX7_set_38 : decode cX7_set 38 = .ok (.new 64, 3) := by decide +kernel
theorem dX7_set_41 : decode cX7_set 41 = .ok (.dup, 1) := by decide +kernel
theorem dX7_set_42 : decode cX7_set 42 = .ok (.ldc 66, 2) := by decide +kernel
theorem dX7_set_44 : decode cX7_set 44 = .ok (.invokespecial 68, 3) := by decide +kernel
theorem dX7_set_47 : decode cX7_set 47 = .ok (.athrow, 1) := by decide +kernel
theorem dX7_set_48 : decode cX7_set 48 = .ok (.aload_n 0, 1) := by decide +kernel
theorem dX7_set_49 : decode cX7_set 49 = .ok (.getfield 43, 3) := by decide +kernel
theorem dX7_set_52 : decode cX7_set 52 = .ok (.getfield 69, 3) := by decide +kernel
theorem dX7_set_55 : decode cX7_set 55 = .ok (.ifCond .le 13, 3) := by decide +kernel
theorem dX7_set_58 : decode cX7_set 58 = .ok (.new 73, 3) := by decide +kernel
theorem dX7_set_61 : decode cX7_set 61 = .ok (.dup, 1) := by decide +kernel
theorem dX7_set_62 : decode cX7_set 62 = .ok (.ldc 75, 2) := by decide +kernel
theorem dX7_set_64 : decode cX7_set 64 = .ok (.invokespecial 77, 3) := by decide +kernel
theorem dX7_set_67 : decode cX7_set 67 = .ok (.athrow, 1) := by decide +kernel
theorem dX7_set_68 : decode cX7_set 68 = .ok (.aload_n 0, 1) := by decide +kernel
theorem dX7_set_69 : decode cX7_set 69 = .ok (.invokevirtual 78, 3) := by decide +kernel
theorem dX7_set_72 : decode cX7_set 72 = .ok (.aload_n 0, 1) := by decide +kernel
theorem dX7_set_73 : decode cX7_set 73 = .ok (.getfield 43, 3) := by decide +kernel
theorem dX7_set_76 : decode cX7_set 76 = .ok (.getfield 81, 3) := by decide +kernel
theorem dX7_set_79 : decode cX7_set 79 = .ok (.iload_n 1, 1) := by decide +kernel
theorem dX7_set_80 : decode cX7_set 80 = .ok (.iaload, 1) := by decide +kernel
theorem dX7_set_81 : decode cX7_set 81 = .ok (.istore_n 3, 1) := by decide +kernel
theorem dX7_set_82 : decode cX7_set 82 = .ok (.aload_n 0, 1) := by decide +kernel
theorem dX7_set_83 : decode cX7_set 83 = .ok (.getfield 43, 3) := by decide +kernel
theorem dX7_set_86 : decode cX7_set 86 = .ok (.getfield 81, 3) := by decide +kernel
theorem dX7_set_89 : decode cX7_set 89 = .ok (.iload_n 1, 1) := by decide +kernel
theorem dX7_set_90 : decode cX7_set 90 = .ok (.iload_n 2, 1) := by decide +kernel
theorem dX7_set_91 : decode cX7_set 91 = .ok (.iastore, 1) := by decide +kernel
theorem dX7_set_92 : decode cX7_set 92 = .ok (.iload_n 3, 1) := by decide +kernel
theorem dX7_set_93 : decode cX7_set 93 = .ok (.ireturn, 1) := by decide +kernel
theorem dX7_addLane_0 : decode cX7_addLane 0 = .ok (.iload_n 1, 1) := by decide +kernel
theorem dX7_addLane_1 : decode cX7_addLane 1 = .ok (.iconst 1, 1) := by decide +kernel
theorem dX7_addLane_2 : decode cX7_addLane 2 = .ok (.if_icmp .lt 10, 3) := by decide +kernel
theorem dX7_addLane_5 : decode cX7_addLane 5 = .ok (.iload_n 1, 1) := by decide +kernel
theorem dX7_addLane_6 : decode cX7_addLane 6 = .ok (.sipush 4999, 3) := by decide +kernel
theorem dX7_addLane_9 : decode cX7_addLane 9 = .ok (.if_icmp .le 13, 3) := by decide +kernel
theorem dX7_addLane_12 : decode cX7_addLane 12 = .ok (.new 64, 3) := by decide +kernel
theorem dX7_addLane_15 : decode cX7_addLane 15 = .ok (.dup, 1) := by decide +kernel
theorem dX7_addLane_16 : decode cX7_addLane 16 = .ok (.ldc 84, 2) := by decide +kernel
theorem dX7_addLane_18 : decode cX7_addLane 18 = .ok (.invokespecial 68, 3) := by decide +kernel
theorem dX7_addLane_21 : decode cX7_addLane 21 = .ok (.athrow, 1) := by decide +kernel
theorem dX7_addLane_22 : decode cX7_addLane 22 = .ok (.iload_n 2, 1) := by decide +kernel
theorem dX7_addLane_23 : decode cX7_addLane 23 = .ok (.iconst 1, 1) := by decide +kernel
theorem dX7_addLane_24 : decode cX7_addLane 24 = .ok (.if_icmp .lt 10, 3) := by decide +kernel
theorem dX7_addLane_27 : decode cX7_addLane 27 = .ok (.iload_n 2, 1) := by decide +kernel
theorem dX7_addLane_28 : decode cX7_addLane 28 = .ok (.sipush 200, 3) := by decide +kernel
theorem dX7_addLane_31 : decode cX7_addLane 31 = .ok (.if_icmp .le 13, 3) := by decide +kernel
theorem dX7_addLane_34 : decode cX7_addLane 34 = .ok (.new 64, 3) := by decide +kernel
theorem dX7_addLane_37 : decode cX7_addLane 37 = .ok (.dup, 1) := by decide +kernel
theorem dX7_addLane_38 : decode cX7_addLane 38 = .ok (.ldc 86, 2) := by decide +kernel
theorem dX7_addLane_40 : decode cX7_addLane 40 = .ok (.invokespecial 68, 3) := by decide +kernel
theorem dX7_addLane_43 : decode cX7_addLane 43 = .ok (.athrow, 1) := by decide +kernel
theorem dX7_addLane_44 : decode cX7_addLane 44 = .ok (.iload_n 3, 1) := by decide +kernel
theorem dX7_addLane_45 : decode cX7_addLane 45 = .ok (.iconst 1, 1) := by decide +kernel
theorem dX7_addLane_46 : decode cX7_addLane 46 = .ok (.if_icmp .lt 9, 3) := by decide +kernel
theorem dX7_addLane_49 : decode cX7_addLane 49 = .ok (.iload_n 3, 1) := by decide +kernel
theorem dX7_addLane_50 : decode cX7_addLane 50 = .ok (.bipush 50, 2) := by decide +kernel
theorem dX7_addLane_52 : decode cX7_addLane 52 = .ok (.if_icmp .le 13, 3) := by decide +kernel
theorem dX7_addLane_55 : decode cX7_addLane 55 = .ok (.new 64, 3) := by decide +kernel
theorem dX7_addLane_58 : decode cX7_addLane 58 = .ok (.dup, 1) := by decide +kernel
theorem dX7_addLane_59 : decode cX7_addLane 59 = .ok (.ldc 88, 2) := by decide +kernel
theorem dX7_addLane_61 : decode cX7_addLane 61 = .ok (.invokespecial 68, 3) := by decide +kernel
theorem dX7_addLane_64 : decode cX7_addLane 64 = .ok (.athrow, 1) := by decide +kernel
theorem dX7_addLane_65 : decode cX7_addLane 65 = .ok (.aload_n 0, 1) := by decide +kernel
theorem dX7_addLane_66 : decode cX7_addLane 66 = .ok (.getfield 43, 3) := by decide +kernel
theorem dX7_addLane_69 : decode cX7_addLane 69 = .ok (.getfield 90, 3) := by decide +kernel
theorem dX7_addLane_72 : decode cX7_addLane 72 = .ok (.bipush 6, 2) := by decide +kernel
theorem dX7_addLane_74 : decode cX7_addLane 74 = .ok (.if_icmp .lt 13, 3) := by decide +kernel
theorem dX7_addLane_77 : decode cX7_addLane 77 = .ok (.new 73, 3) := by decide +kernel
theorem dX7_addLane_80 : decode cX7_addLane 80 = .ok (.dup, 1) := by decide +kernel
theorem dX7_addLane_81 : decode cX7_addLane 81 = .ok (.ldc 93, 2) := by decide +kernel
theorem dX7_addLane_83 : decode cX7_addLane 83 = .ok (.invokespecial 77, 3) := by decide +kernel
theorem dX7_addLane_86 : decode cX7_addLane 86 = .ok (.athrow, 1) := by decide +kernel
theorem dX7_addLane_87 : decode cX7_addLane 87 = .ok (.aload_n 0, 1) := by decide +kernel
theorem dX7_addLane_88 : decode cX7_addLane 88 = .ok (.invokevirtual 78, 3) := by decide +kernel
theorem dX7_addLane_91 : decode cX7_addLane 91 = .ok (.aload_n 0, 1) := by decide +kernel
theorem dX7_addLane_92 : decode cX7_addLane 92 = .ok (.getfield 43, 3) := by decide +kernel
theorem dX7_addLane_95 : decode cX7_addLane 95 = .ok (.getfield 90, 3) := by decide +kernel
theorem dX7_addLane_98 : decode cX7_addLane 98 = .ok (.istore 4, 2) := by decide +kernel
theorem dX7_addLane_100 : decode cX7_addLane 100 = .ok (.aload_n 0, 1) := by decide +kernel
theorem dX7_addLane_101 : decode cX7_addLane 101 = .ok (.getfield 43, 3) := by decide +kernel
theorem dX7_addLane_104 : decode cX7_addLane 104 = .ok (.getfield 95, 3) := by decide +kernel
theorem dX7_addLane_107 : decode cX7_addLane 107 = .ok (.iload 4, 2) := by decide +kernel
theorem dX7_addLane_109 : decode cX7_addLane 109 = .ok (.aaload, 1) := by decide +kernel
theorem dX7_addLane_110 : decode cX7_addLane 110 = .ok (.iload_n 1, 1) := by decide +kernel
theorem dX7_addLane_111 : decode cX7_addLane 111 = .ok (.iload_n 2, 1) := by decide +kernel
theorem dX7_addLane_112 : decode cX7_addLane 112 = .ok (.iload_n 3, 1) := by decide +kernel
theorem dX7_addLane_113 : decode cX7_addLane 113 = .ok (.invokevirtual 99, 3) := by decide +kernel
theorem dX7_addLane_116 : decode cX7_addLane 116 = .ok (.aload_n 0, 1) := by decide +kernel
theorem dX7_addLane_117 : decode cX7_addLane 117 = .ok (.getfield 43, 3) := by decide +kernel
theorem dX7_addLane_120 : decode cX7_addLane 120 = .ok (.dup, 1) := by decide +kernel
theorem dX7_addLane_121 : decode cX7_addLane 121 = .ok (.getfield 90, 3) := by decide +kernel
theorem dX7_addLane_124 : decode cX7_addLane 124 = .ok (.iconst 1, 1) := by decide +kernel
theorem dX7_addLane_125 : decode cX7_addLane 125 = .ok (.iadd, 1) := by decide +kernel
theorem dX7_addLane_126 : decode cX7_addLane 126 = .ok (.putfield 90, 3) := by decide +kernel
theorem dX7_addLane_129 : decode cX7_addLane 129 = .ok (.iload 4, 2) := by decide +kernel
theorem dX7_addLane_131 : decode cX7_addLane 131 = .ok (.ireturn, 1) := by decide +kernel
theorem dX7_emptyLane_0 : decode cX7_emptyLane 0 = .ok (.aload_n 0, 1) := by decide +kernel
theorem dX7_emptyLane_1 : decode cX7_emptyLane 1 = .ok (.getfield 43, 3) := by decide +kernel
theorem dX7_emptyLane_4 : decode cX7_emptyLane 4 = .ok (.iload_n 1, 1) := by decide +kernel
theorem dX7_emptyLane_5 : decode cX7_emptyLane 5 = .ok (.invokevirtual 105, 3) := by decide +kernel
theorem dX7_emptyLane_8 : decode cX7_emptyLane 8 = .ok (.ifCond .ne 13, 3) := by decide +kernel
theorem dX7_emptyLane_11 : decode cX7_emptyLane 11 = .ok (.new 50, 3) := by decide +kernel
theorem dX7_emptyLane_14 : decode cX7_emptyLane 14 = .ok (.dup, 1) := by decide +kernel
theorem dX7_emptyLane_15 : decode cX7_emptyLane 15 = .ok (.ldc 109, 2) := by decide +kernel
theorem dX7_emptyLane_17 : decode cX7_emptyLane 17 = .ok (.invokespecial 54, 3) := by decide +kernel
theorem dX7_emptyLane_20 : decode cX7_emptyLane 20 = .ok (.athrow, 1) := by decide +kernel
theorem dX7_emptyLane_21 : decode cX7_emptyLane 21 = .ok (.aload_n 0, 1) := by decide +kernel
theorem dX7_emptyLane_22 : decode cX7_emptyLane 22 = .ok (.invokevirtual 78, 3) := by decide +kernel
theorem dX7_emptyLane_25 : decode cX7_emptyLane 25 = .ok (.aload_n 0, 1) := by decide +kernel
theorem dX7_emptyLane_26 : decode cX7_emptyLane 26 = .ok (.getfield 43, 3) := by decide +kernel
theorem dX7_emptyLane_29 : decode cX7_emptyLane 29 = .ok (.getfield 95, 3) := by decide +kernel
theorem dX7_emptyLane_32 : decode cX7_emptyLane 32 = .ok (.iload_n 1, 1) := by decide +kernel
theorem dX7_emptyLane_33 : decode cX7_emptyLane 33 = .ok (.aaload, 1) := by decide +kernel
theorem dX7_emptyLane_34 : decode cX7_emptyLane 34 = .ok (.getfield 111, 3) := by decide +kernel
theorem dX7_emptyLane_37 : decode cX7_emptyLane 37 = .ok (.istore_n 2, 1) := by decide +kernel
theorem dX7_emptyLane_38 : decode cX7_emptyLane 38 = .ok (.aload_n 0, 1) := by decide +kernel
theorem dX7_emptyLane_39 : decode cX7_emptyLane 39 = .ok (.getfield 43, 3) := by decide +kernel
theorem dX7_emptyLane_42 : decode cX7_emptyLane 42 = .ok (.getfield 95, 3) := by decide +kernel
theorem dX7_emptyLane_45 : decode cX7_emptyLane 45 = .ok (.iload_n 1, 1) := by decide +kernel
theorem dX7_emptyLane_46 : decode cX7_emptyLane 46 = .ok (.aaload, 1) := by decide +kernel
theorem dX7_emptyLane_47 : decode cX7_emptyLane 47 = .ok (.iconst 0, 1) := by decide +kernel
theorem dX7_emptyLane_48 : decode cX7_emptyLane 48 = .ok (.putfield 111, 3) := by decide +kernel
theorem dX7_emptyLane_51 : decode cX7_emptyLane 51 = .ok (.iload_n 2, 1) := by decide +kernel
theorem dX7_emptyLane_52 : decode cX7_emptyLane 52 = .ok (.ireturn, 1) := by decide +kernel
theorem dX7_route_0 : decode cX7_route 0 = .ok (.iload_n 1, 1) := by decide +kernel
theorem dX7_route_1 : decode cX7_route 1 = .ok (.ifCond .lt 10, 3) := by decide +kernel
theorem dX7_route_4 : decode cX7_route 4 = .ok (.iload_n 1, 1) := by decide +kernel
theorem dX7_route_5 : decode cX7_route 5 = .ok (.sipush 999, 3) := by decide +kernel
theorem dX7_route_8 : decode cX7_route 8 = .ok (.if_icmp .le 13, 3) := by decide +kernel
theorem dX7_route_11 : decode cX7_route 11 = .ok (.new 64, 3) := by decide +kernel
theorem dX7_route_14 : decode cX7_route 14 = .ok (.dup, 1) := by decide +kernel
theorem dX7_route_15 : decode cX7_route 15 = .ok (.ldc 114, 2) := by decide +kernel
theorem dX7_route_17 : decode cX7_route 17 = .ok (.invokespecial 68, 3) := by decide +kernel
theorem dX7_route_20 : decode cX7_route 20 = .ok (.athrow, 1) := by decide +kernel
theorem dX7_route_21 : decode cX7_route 21 = .ok (.aload_n 0, 1) := by decide +kernel
theorem dX7_route_22 : decode cX7_route 22 = .ok (.getfield 43, 3) := by decide +kernel
theorem dX7_route_25 : decode cX7_route 25 = .ok (.iload_n 2, 1) := by decide +kernel
theorem dX7_route_26 : decode cX7_route 26 = .ok (.invokevirtual 105, 3) := by decide +kernel
theorem dX7_route_29 : decode cX7_route 29 = .ok (.ifCond .ne 13, 3) := by decide +kernel
theorem dX7_route_32 : decode cX7_route 32 = .ok (.new 50, 3) := by decide +kernel
theorem dX7_route_35 : decode cX7_route 35 = .ok (.dup, 1) := by decide +kernel
theorem dX7_route_36 : decode cX7_route 36 = .ok (.ldc 109, 2) := by decide +kernel
theorem dX7_route_38 : decode cX7_route 38 = .ok (.invokespecial 54, 3) := by decide +kernel
theorem dX7_route_41 : decode cX7_route 41 = .ok (.athrow, 1) := by decide +kernel
theorem dX7_route_42 : decode cX7_route 42 = .ok (.aload_n 0, 1) := by decide +kernel
theorem dX7_route_43 : decode cX7_route 43 = .ok (.getfield 43, 3) := by decide +kernel
theorem dX7_route_46 : decode cX7_route 46 = .ok (.getfield 116, 3) := by decide +kernel
theorem dX7_route_49 : decode cX7_route 49 = .ok (.iload_n 1, 1) := by decide +kernel
theorem dX7_route_50 : decode cX7_route 50 = .ok (.invokevirtual 120, 3) := by decide +kernel
theorem dX7_route_53 : decode cX7_route 53 = .ok (.istore_n 3, 1) := by decide +kernel
theorem dX7_route_54 : decode cX7_route 54 = .ok (.iload_n 3, 1) := by decide +kernel
theorem dX7_route_55 : decode cX7_route 55 = .ok (.iconst (-1), 1) := by decide +kernel
theorem dX7_route_56 : decode cX7_route 56 = .ok (.if_icmp .ne 28, 3) := by decide +kernel
theorem dX7_route_59 : decode cX7_route 59 = .ok (.aload_n 0, 1) := by decide +kernel
theorem dX7_route_60 : decode cX7_route 60 = .ok (.getfield 43, 3) := by decide +kernel
theorem dX7_route_63 : decode cX7_route 63 = .ok (.getfield 116, 3) := by decide +kernel
theorem dX7_route_66 : decode cX7_route 66 = .ok (.getfield 126, 3) := by decide +kernel
theorem dX7_route_69 : decode cX7_route 69 = .ok (.bipush 30, 2) := by decide +kernel
theorem dX7_route_71 : decode cX7_route 71 = .ok (.if_icmp .lt 13, 3) := by decide +kernel
theorem dX7_route_74 : decode cX7_route 74 = .ok (.new 73, 3) := by decide +kernel
theorem dX7_route_77 : decode cX7_route 77 = .ok (.dup, 1) := by decide +kernel
theorem dX7_route_78 : decode cX7_route 78 = .ok (.ldc 129, 2) := by decide +kernel
theorem dX7_route_80 : decode cX7_route 80 = .ok (.invokespecial 77, 3) := by decide +kernel
theorem dX7_route_83 : decode cX7_route 83 = .ok (.athrow, 1) := by decide +kernel
theorem dX7_route_84 : decode cX7_route 84 = .ok (.aload_n 0, 1) := by decide +kernel
theorem dX7_route_85 : decode cX7_route 85 = .ok (.invokevirtual 78, 3) := by decide +kernel
theorem dX7_route_88 : decode cX7_route 88 = .ok (.aload_n 0, 1) := by decide +kernel
theorem dX7_route_89 : decode cX7_route 89 = .ok (.getfield 43, 3) := by decide +kernel
theorem dX7_route_92 : decode cX7_route 92 = .ok (.getfield 116, 3) := by decide +kernel
theorem dX7_route_95 : decode cX7_route 95 = .ok (.iload_n 1, 1) := by decide +kernel
theorem dX7_route_96 : decode cX7_route 96 = .ok (.iload_n 2, 1) := by decide +kernel
theorem dX7_route_97 : decode cX7_route 97 = .ok (.invokevirtual 131, 3) := by decide +kernel
theorem dX7_route_100 : decode cX7_route 100 = .ok (.iload_n 3, 1) := by decide +kernel
theorem dX7_route_101 : decode cX7_route 101 = .ok (.ireturn, 1) := by decide +kernel
theorem dX7_removeRoute_0 : decode cX7_removeRoute 0 = .ok (.iload_n 1, 1) := by decide +kernel
theorem dX7_removeRoute_1 : decode cX7_removeRoute 1 = .ok (.ifCond .lt 10, 3) := by decide +kernel
theorem dX7_removeRoute_4 : decode cX7_removeRoute 4 = .ok (.iload_n 1, 1) := by decide +kernel
theorem dX7_removeRoute_5 : decode cX7_removeRoute 5 = .ok (.sipush 999, 3) := by decide +kernel
theorem dX7_removeRoute_8 : decode cX7_removeRoute 8 = .ok (.if_icmp .le 13, 3) := by decide +kernel
theorem dX7_removeRoute_11 : decode cX7_removeRoute 11 = .ok (.new 64, 3) := by decide +kernel
theorem dX7_removeRoute_14 : decode cX7_removeRoute 14 = .ok (.dup, 1) := by decide +kernel
theorem dX7_removeRoute_15 : decode cX7_removeRoute 15 = .ok (.ldc 114, 2) := by decide +kernel
theorem dX7_removeRoute_17 : decode cX7_removeRoute 17 = .ok (.invokespecial 68, 3) := by decide +kernel
theorem dX7_removeRoute_20 : decode cX7_removeRoute 20 = .ok (.athrow, 1) := by decide +kernel
theorem dX7_removeRoute_21 : decode cX7_removeRoute 21 = .ok (.aload_n 0, 1) := by decide +kernel
theorem dX7_removeRoute_22 : decode cX7_removeRoute 22 = .ok (.getfield 43, 3) := by decide +kernel
theorem dX7_removeRoute_25 : decode cX7_removeRoute 25 = .ok (.getfield 116, 3) := by decide +kernel
theorem dX7_removeRoute_28 : decode cX7_removeRoute 28 = .ok (.iload_n 1, 1) := by decide +kernel
theorem dX7_removeRoute_29 : decode cX7_removeRoute 29 = .ok (.invokevirtual 120, 3) := by decide +kernel
theorem dX7_removeRoute_32 : decode cX7_removeRoute 32 = .ok (.istore_n 2, 1) := by decide +kernel
theorem dX7_removeRoute_33 : decode cX7_removeRoute 33 = .ok (.iload_n 2, 1) := by decide +kernel
theorem dX7_removeRoute_34 : decode cX7_removeRoute 34 = .ok (.iconst (-1), 1) := by decide +kernel
theorem dX7_removeRoute_35 : decode cX7_removeRoute 35 = .ok (.if_icmp .ne 13, 3) := by decide +kernel
theorem dX7_removeRoute_38 : decode cX7_removeRoute 38 = .ok (.new 73, 3) := by decide +kernel
theorem dX7_removeRoute_41 : decode cX7_removeRoute 41 = .ok (.dup, 1) := by decide +kernel
theorem dX7_removeRoute_42 : decode cX7_removeRoute 42 = .ok (.ldc 135, 2) := by decide +kernel
theorem dX7_removeRoute_44 : decode cX7_removeRoute 44 = .ok (.invokespecial 77, 3) := by decide +kernel
theorem dX7_removeRoute_47 : decode cX7_removeRoute 47 = .ok (.athrow, 1) := by decide +kernel
theorem dX7_removeRoute_48 : decode cX7_removeRoute 48 = .ok (.aload_n 0, 1) := by decide +kernel
theorem dX7_removeRoute_49 : decode cX7_removeRoute 49 = .ok (.invokevirtual 78, 3) := by decide +kernel
theorem dX7_removeRoute_52 : decode cX7_removeRoute 52 = .ok (.aload_n 0, 1) := by decide +kernel
theorem dX7_removeRoute_53 : decode cX7_removeRoute 53 = .ok (.getfield 43, 3) := by decide +kernel
theorem dX7_removeRoute_56 : decode cX7_removeRoute 56 = .ok (.getfield 116, 3) := by decide +kernel
theorem dX7_removeRoute_59 : decode cX7_removeRoute 59 = .ok (.iload_n 1, 1) := by decide +kernel
theorem dX7_removeRoute_60 : decode cX7_removeRoute 60 = .ok (.invokevirtual 137, 3) := by decide +kernel
theorem dX7_removeRoute_63 : decode cX7_removeRoute 63 = .ok (.iload_n 2, 1) := by decide +kernel
theorem dX7_removeRoute_64 : decode cX7_removeRoute 64 = .ok (.ireturn, 1) := by decide +kernel
theorem dX7_enter_0 : decode cX7_enter 0 = .ok (.iload_n 1, 1) := by decide +kernel
theorem dX7_enter_1 : decode cX7_enter 1 = .ok (.bipush 10, 2) := by decide +kernel
theorem dX7_enter_3 : decode cX7_enter 3 = .ok (.if_icmp .lt 10, 3) := by decide +kernel
theorem dX7_enter_6 : decode cX7_enter 6 = .ok (.iload_n 1, 1) := by decide +kernel
theorem dX7_enter_7 : decode cX7_enter 7 = .ok (.sipush 400, 3) := by decide +kernel
theorem dX7_enter_10 : decode cX7_enter 10 = .ok (.if_icmp .le 13, 3) := by decide +kernel
theorem dX7_enter_13 : decode cX7_enter 13 = .ok (.new 64, 3) := by decide +kernel
theorem dX7_enter_16 : decode cX7_enter 16 = .ok (.dup, 1) := by decide +kernel
theorem dX7_enter_17 : decode cX7_enter 17 = .ok (.ldc 140, 2) := by decide +kernel
theorem dX7_enter_19 : decode cX7_enter 19 = .ok (.invokespecial 68, 3) := by decide +kernel
theorem dX7_enter_22 : decode cX7_enter 22 = .ok (.athrow, 1) := by decide +kernel
theorem dX7_enter_23 : decode cX7_enter 23 = .ok (.aload_n 0, 1) := by decide +kernel
theorem dX7_enter_24 : decode cX7_enter 24 = .ok (.getfield 43, 3) := by decide +kernel
theorem dX7_enter_27 : decode cX7_enter 27 = .ok (.invokevirtual 142, 3) := by decide +kernel
theorem dX7_enter_30 : decode cX7_enter 30 = .ok (.ifCond .ge 13, 3) := by decide +kernel
theorem dX7_enter_33 : decode cX7_enter 33 = .ok (.new 73, 3) := by decide +kernel
theorem dX7_enter_36 : decode cX7_enter 36 = .ok (.dup, 1) := by decide +kernel
theorem dX7_enter_37 : decode cX7_enter 37 = .ok (.ldc 146, 2) := by decide +kernel
theorem dX7_enter_39 : decode cX7_enter 39 = .ok (.invokespecial 77, 3) := by decide +kernel
theorem dX7_enter_42 : decode cX7_enter 42 = .ok (.athrow, 1) := by decide +kernel
theorem dX7_enter_43 : decode cX7_enter 43 = .ok (.aload_n 0, 1) := by decide +kernel
theorem dX7_enter_44 : decode cX7_enter 44 = .ok (.getfield 43, 3) := by decide +kernel
theorem dX7_enter_47 : decode cX7_enter 47 = .ok (.getfield 69, 3) := by decide +kernel
theorem dX7_enter_50 : decode cX7_enter 50 = .ok (.bipush 20, 2) := by decide +kernel
theorem dX7_enter_52 : decode cX7_enter 52 = .ok (.if_icmp .ge 16, 3) := by decide +kernel
theorem dX7_enter_55 : decode cX7_enter 55 = .ok (.aload_n 0, 1) := by decide +kernel
theorem dX7_enter_56 : decode cX7_enter 56 = .ok (.getfield 43, 3) := by decide +kernel
theorem dX7_enter_59 : decode cX7_enter 59 = .ok (.getfield 148, 3) := by decide +kernel
theorem dX7_enter_62 : decode cX7_enter 62 = .ok (.sipush 300, 3) := by decide +kernel
theorem dX7_enter_65 : decode cX7_enter 65 = .ok (.if_icmp .lt 13, 3) := by decide +kernel
theorem dX7_enter_68 : decode cX7_enter 68 = .ok (.new 73, 3) := by decide +kernel
theorem dX7_enter_71 : decode cX7_enter 71 = .ok (.dup, 1) := by decide +kernel
theorem dX7_enter_72 : decode cX7_enter 72 = .ok (.ldc 151, 2) := by decide +kernel
theorem dX7_enter_74 : decode cX7_enter 74 = .ok (.invokespecial 77, 3) := by decide +kernel
theorem dX7_enter_77 : decode cX7_enter 77 = .ok (.athrow, 1) := by decide +kernel
theorem dX7_enter_78 : decode cX7_enter 78 = .ok (.aload_n 0, 1) := by decide +kernel
theorem dX7_enter_79 : decode cX7_enter 79 = .ok (.invokevirtual 78, 3) := by decide +kernel
theorem dX7_enter_82 : decode cX7_enter 82 = .ok (.aload_n 0, 1) := by decide +kernel
theorem dX7_enter_83 : decode cX7_enter 83 = .ok (.getfield 43, 3) := by decide +kernel
theorem dX7_enter_86 : decode cX7_enter 86 = .ok (.iload_n 1, 1) := by decide +kernel
theorem dX7_enter_87 : decode cX7_enter 87 = .ok (.invokevirtual 153, 3) := by decide +kernel
theorem dX7_enter_90 : decode cX7_enter 90 = .ok (.ireturn, 1) := by decide +kernel
theorem dX7_read_0 : decode cX7_read 0 = .ok (.iload_n 1, 1) := by decide +kernel
theorem dX7_read_1 : decode cX7_read 1 = .ok (.ifCond .lt 10, 3) := by decide +kernel
theorem dX7_read_4 : decode cX7_read 4 = .ok (.iload_n 1, 1) := by decide +kernel
theorem dX7_read_5 : decode cX7_read 5 = .ok (.sipush 999, 3) := by decide +kernel
theorem dX7_read_8 : decode cX7_read 8 = .ok (.if_icmp .le 13, 3) := by decide +kernel
theorem dX7_read_11 : decode cX7_read 11 = .ok (.new 64, 3) := by decide +kernel
theorem dX7_read_14 : decode cX7_read 14 = .ok (.dup, 1) := by decide +kernel
theorem dX7_read_15 : decode cX7_read 15 = .ok (.ldc 114, 2) := by decide +kernel
theorem dX7_read_17 : decode cX7_read 17 = .ok (.invokespecial 68, 3) := by decide +kernel
theorem dX7_read_20 : decode cX7_read 20 = .ok (.athrow, 1) := by decide +kernel
theorem dX7_read_21 : decode cX7_read 21 = .ok (.aload_n 0, 1) := by decide +kernel
theorem dX7_read_22 : decode cX7_read 22 = .ok (.invokevirtual 78, 3) := by decide +kernel
theorem dX7_read_25 : decode cX7_read 25 = .ok (.aload_n 0, 1) := by decide +kernel
theorem dX7_read_26 : decode cX7_read 26 = .ok (.getfield 43, 3) := by decide +kernel
theorem dX7_read_29 : decode cX7_read 29 = .ok (.invokevirtual 156, 3) := by decide +kernel
theorem dX7_read_32 : decode cX7_read 32 = .ok (.astore_n 2, 1) := by decide +kernel
theorem dX7_read_33 : decode cX7_read 33 = .ok (.aload_n 2, 1) := by decide +kernel
theorem dX7_read_34 : decode cX7_read 34 = .ok (.ifnonnull 18, 3) := by decide +kernel
theorem dX7_read_37 : decode cX7_read 37 = .ok (.aload_n 0, 1) := by decide +kernel
theorem dX7_read_38 : decode cX7_read 38 = .ok (.getfield 43, 3) := by decide +kernel
theorem dX7_read_41 : decode cX7_read 41 = .ok (.dup, 1) := by decide +kernel
theorem dX7_read_42 : decode cX7_read 42 = .ok (.getfield 160, 3) := by decide +kernel
theorem dX7_read_45 : decode cX7_read 45 = .ok (.iconst 1, 1) := by decide +kernel
theorem dX7_read_46 : decode cX7_read 46 = .ok (.iadd, 1) := by decide +kernel
theorem dX7_read_47 : decode cX7_read 47 = .ok (.putfield 160, 3) := by decide +kernel
theorem dX7_read_50 : decode cX7_read 50 = .ok (.iconst (-1), 1) := by decide +kernel
theorem dX7_read_51 : decode cX7_read 51 = .ok (.ireturn, 1) := by decide +kernel
theorem dX7_read_52 : decode cX7_read 52 = .ok (.aload_n 2, 1) := by decide +kernel
theorem dX7_read_53 : decode cX7_read 53 = .ok (.iload_n 1, 1) := by decide +kernel
theorem dX7_read_54 : decode cX7_read 54 = .ok (.aload_n 0, 1) := by decide +kernel
theorem dX7_read_55 : decode cX7_read 55 = .ok (.getfield 43, 3) := by decide +kernel
theorem dX7_read_58 : decode cX7_read 58 = .ok (.getfield 163, 3) := by decide +kernel
theorem dX7_read_61 : decode cX7_read 61 = .ok (.aload_n 0, 1) := by decide +kernel
theorem dX7_read_62 : decode cX7_read 62 = .ok (.getfield 43, 3) := by decide +kernel
theorem dX7_read_65 : decode cX7_read 65 = .ok (.getfield 81, 3) := by decide +kernel
theorem dX7_read_68 : decode cX7_read 68 = .ok (.iconst 2, 1) := by decide +kernel
theorem dX7_read_69 : decode cX7_read 69 = .ok (.iaload, 1) := by decide +kernel
theorem dX7_read_70 : decode cX7_read 70 = .ok (.invokevirtual 166, 3) := by decide +kernel
theorem dX7_read_73 : decode cX7_read 73 = .ok (.aload_n 2, 1) := by decide +kernel
theorem dX7_read_74 : decode cX7_read 74 = .ok (.getfield 171, 3) := by decide +kernel
theorem dX7_read_77 : decode cX7_read 77 = .ok (.ireturn, 1) := by decide +kernel
theorem dX7_move_0 : decode cX7_move 0 = .ok (.iload_n 1, 1) := by decide +kernel
theorem dX7_move_1 : decode cX7_move 1 = .ok (.iconst 1, 1) := by decide +kernel
theorem dX7_move_2 : decode cX7_move 2 = .ok (.if_icmp .lt 10, 3) := by decide +kernel
theorem dX7_move_5 : decode cX7_move 5 = .ok (.iload_n 1, 1) := by decide +kernel
theorem dX7_move_6 : decode cX7_move 6 = .ok (.sipush 500, 3) := by decide +kernel
theorem dX7_move_9 : decode cX7_move 9 = .ok (.if_icmp .le 13, 3) := by decide +kernel
theorem dX7_move_12 : decode cX7_move 12 = .ok (.new 64, 3) := by decide +kernel
theorem dX7_move_15 : decode cX7_move 15 = .ok (.dup, 1) := by decide +kernel
theorem dX7_move_16 : decode cX7_move 16 = .ok (.ldc 174, 2) := by decide +kernel
theorem dX7_move_18 : decode cX7_move 18 = .ok (.invokespecial 68, 3) := by decide +kernel
theorem dX7_move_21 : decode cX7_move 21 = .ok (.athrow, 1) := by decide +kernel
theorem dX7_move_22 : decode cX7_move 22 = .ok (.aload_n 0, 1) := by decide +kernel
theorem dX7_move_23 : decode cX7_move 23 = .ok (.getfield 43, 3) := by decide +kernel
theorem dX7_move_26 : decode cX7_move 26 = .ok (.getfield 163, 3) := by decide +kernel
theorem dX7_move_29 : decode cX7_move 29 = .ok (.iload_n 1, 1) := by decide +kernel
theorem dX7_move_30 : decode cX7_move 30 = .ok (.iadd, 1) := by decide +kernel
theorem dX7_move_31 : decode cX7_move 31 = .ok (.ldc 176, 2) := by decide +kernel
theorem dX7_move_33 : decode cX7_move 33 = .ok (.if_icmp .le 13, 3) := by decide +kernel
theorem dX7_move_36 : decode cX7_move 36 = .ok (.new 73, 3) := by decide +kernel
theorem dX7_move_39 : decode cX7_move 39 = .ok (.dup, 1) := by decide +kernel
theorem dX7_move_40 : decode cX7_move 40 = .ok (.ldc 177, 2) := by decide +kernel
theorem dX7_move_42 : decode cX7_move 42 = .ok (.invokespecial 77, 3) := by decide +kernel
theorem dX7_move_45 : decode cX7_move 45 = .ok (.athrow, 1) := by decide +kernel
theorem dX7_move_46 : decode cX7_move 46 = .ok (.aload_n 0, 1) := by decide +kernel
theorem dX7_move_47 : decode cX7_move 47 = .ok (.invokevirtual 78, 3) := by decide +kernel
theorem dX7_move_50 : decode cX7_move 50 = .ok (.aload_n 0, 1) := by decide +kernel
theorem dX7_move_51 : decode cX7_move 51 = .ok (.getfield 43, 3) := by decide +kernel
theorem dX7_move_54 : decode cX7_move 54 = .ok (.getfield 69, 3) := by decide +kernel
theorem dX7_move_57 : decode cX7_move 57 = .ok (.istore_n 2, 1) := by decide +kernel
theorem dX7_move_58 : decode cX7_move 58 = .ok (.aload_n 0, 1) := by decide +kernel
theorem dX7_move_59 : decode cX7_move 59 = .ok (.getfield 43, 3) := by decide +kernel
theorem dX7_move_62 : decode cX7_move 62 = .ok (.invokevirtual 179, 3) := by decide +kernel
theorem dX7_move_65 : decode cX7_move 65 = .ok (.iconst 0, 1) := by decide +kernel
theorem dX7_move_66 : decode cX7_move 66 = .ok (.istore_n 3, 1) := by decide +kernel
theorem dX7_move_67 : decode cX7_move 67 = .ok (.iconst 0, 1) := by decide +kernel
theorem dX7_move_68 : decode cX7_move 68 = .ok (.istore 4, 2) := by decide +kernel
theorem dX7_move_70 : decode cX7_move 70 = .ok (.iload 4, 2) := by decide +kernel
theorem dX7_move_72 : decode cX7_move 72 = .ok (.iload_n 1, 1) := by decide +kernel
theorem dX7_move_73 : decode cX7_move 73 = .ok (.if_icmp .ge 27, 3) := by decide +kernel
theorem dX7_move_76 : decode cX7_move 76 = .ok (.iload_n 3, 1) := by decide +kernel
theorem dX7_move_77 : decode cX7_move 77 = .ok (.iload_n 1, 1) := by decide +kernel
theorem dX7_move_78 : decode cX7_move 78 = .ok (.if_icmp .ge 22, 3) := by decide +kernel
theorem dX7_move_81 : decode cX7_move 81 = .ok (.iload_n 3, 1) := by decide +kernel
theorem dX7_move_82 : decode cX7_move 82 = .ok (.aload_n 0, 1) := by decide +kernel
theorem dX7_move_83 : decode cX7_move 83 = .ok (.getfield 43, 3) := by decide +kernel
theorem dX7_move_86 : decode cX7_move 86 = .ok (.iload_n 1, 1) := by decide +kernel
theorem dX7_move_87 : decode cX7_move 87 = .ok (.iload_n 3, 1) := by decide +kernel
theorem dX7_move_88 : decode cX7_move 88 = .ok (.isub, 1) := by decide +kernel
theorem dX7_move_89 : decode cX7_move 89 = .ok (.invokevirtual 182, 3) := by decide +kernel
theorem dX7_move_92 : decode cX7_move 92 = .ok (.iadd, 1) := by decide +kernel
theorem dX7_move_93 : decode cX7_move 93 = .ok (.istore_n 3, 1) := by decide +kernel
theorem dX7_move_94 : decode cX7_move 94 = .ok (.iinc 4 1, 3) := by decide +kernel
theorem dX7_move_97 : decode cX7_move 97 = .ok (.goto (-27), 3) := by decide +kernel
theorem dX7_move_100 : decode cX7_move 100 = .ok (.aload_n 0, 1) := by decide +kernel
theorem dX7_move_101 : decode cX7_move 101 = .ok (.iload_n 2, 1) := by decide +kernel
theorem dX7_move_102 : decode cX7_move 102 = .ok (.invokevirtual 185, 3) := by decide +kernel
theorem dX7_move_105 : decode cX7_move 105 = .ok (.iload_n 2, 1) := by decide +kernel
theorem dX7_move_106 : decode cX7_move 106 = .ok (.aload_n 0, 1) := by decide +kernel
theorem dX7_move_107 : decode cX7_move 107 = .ok (.getfield 43, 3) := by decide +kernel
theorem dX7_move_110 : decode cX7_move 110 = .ok (.getfield 69, 3) := by decide +kernel
theorem dX7_move_113 : decode cX7_move 113 = .ok (.isub, 1) := by decide +kernel
theorem dX7_move_114 : decode cX7_move 114 = .ok (.ireturn, 1) := by decide +kernel
theorem dX7_takeOff_0 : decode cX7_takeOff 0 = .ok (.aload_n 0, 1) := by decide +kernel
theorem dX7_takeOff_1 : decode cX7_takeOff 1 = .ok (.iload_n 1, 1) := by decide +kernel
theorem dX7_takeOff_2 : decode cX7_takeOff 2 = .ok (.invokevirtual 188, 3) := by decide +kernel
theorem dX7_takeOff_5 : decode cX7_takeOff 5 = .ok (.ifCond .ne 13, 3) := by decide +kernel
theorem dX7_takeOff_8 : decode cX7_takeOff 8 = .ok (.new 50, 3) := by decide +kernel
theorem dX7_takeOff_11 : decode cX7_takeOff 11 = .ok (.dup, 1) := by decide +kernel
theorem dX7_takeOff_12 : decode cX7_takeOff 12 = .ok (.ldc 191, 2) := by decide +kernel
theorem dX7_takeOff_14 : decode cX7_takeOff 14 = .ok (.invokespecial 54, 3) := by decide +kernel
theorem dX7_takeOff_17 : decode cX7_takeOff 17 = .ok (.athrow, 1) := by decide +kernel
theorem dX7_takeOff_18 : decode cX7_takeOff 18 = .ok (.aload_n 0, 1) := by decide +kernel
theorem dX7_takeOff_19 : decode cX7_takeOff 19 = .ok (.getfield 43, 3) := by decide +kernel
theorem dX7_takeOff_22 : decode cX7_takeOff 22 = .ok (.iload_n 1, 1) := by decide +kernel
theorem dX7_takeOff_23 : decode cX7_takeOff 23 = .ok (.invokevirtual 193, 3) := by decide +kernel
theorem dX7_takeOff_26 : decode cX7_takeOff 26 = .ok (.istore_n 2, 1) := by decide +kernel
theorem dX7_takeOff_27 : decode cX7_takeOff 27 = .ok (.iload_n 2, 1) := by decide +kernel
theorem dX7_takeOff_28 : decode cX7_takeOff 28 = .ok (.iconst (-1), 1) := by decide +kernel
theorem dX7_takeOff_29 : decode cX7_takeOff 29 = .ok (.if_icmp .ne 13, 3) := by decide +kernel
theorem dX7_takeOff_32 : decode cX7_takeOff 32 = .ok (.new 73, 3) := by decide +kernel
theorem dX7_takeOff_35 : decode cX7_takeOff 35 = .ok (.dup, 1) := by decide +kernel
theorem dX7_takeOff_36 : decode cX7_takeOff 36 = .ok (.ldc 196, 2) := by decide +kernel
theorem dX7_takeOff_38 : decode cX7_takeOff 38 = .ok (.invokespecial 77, 3) := by decide +kernel
theorem dX7_takeOff_41 : decode cX7_takeOff 41 = .ok (.athrow, 1) := by decide +kernel
theorem dX7_takeOff_42 : decode cX7_takeOff 42 = .ok (.aload_n 0, 1) := by decide +kernel
theorem dX7_takeOff_43 : decode cX7_takeOff 43 = .ok (.invokevirtual 78, 3) := by decide +kernel
theorem dX7_takeOff_46 : decode cX7_takeOff 46 = .ok (.aload_n 0, 1) := by decide +kernel
theorem dX7_takeOff_47 : decode cX7_takeOff 47 = .ok (.getfield 43, 3) := by decide +kernel
theorem dX7_takeOff_50 : decode cX7_takeOff 50 = .ok (.getfield 69, 3) := by decide +kernel
theorem dX7_takeOff_53 : decode cX7_takeOff 53 = .ok (.istore_n 3, 1) := by decide +kernel
theorem dX7_takeOff_54 : decode cX7_takeOff 54 = .ok (.aload_n 0, 1) := by decide +kernel
theorem dX7_takeOff_55 : decode cX7_takeOff 55 = .ok (.getfield 43, 3) := by decide +kernel
theorem dX7_takeOff_58 : decode cX7_takeOff 58 = .ok (.getfield 198, 3) := by decide +kernel
theorem dX7_takeOff_61 : decode cX7_takeOff 61 = .ok (.iload_n 2, 1) := by decide +kernel
theorem dX7_takeOff_62 : decode cX7_takeOff 62 = .ok (.aaload, 1) := by decide +kernel
theorem dX7_takeOff_63 : decode cX7_takeOff 63 = .ok (.getfield 202, 3) := by decide +kernel
theorem dX7_takeOff_66 : decode cX7_takeOff 66 = .ok (.istore 4, 2) := by decide +kernel
theorem dX7_takeOff_68 : decode cX7_takeOff 68 = .ok (.aload_n 0, 1) := by decide +kernel
theorem dX7_takeOff_69 : decode cX7_takeOff 69 = .ok (.getfield 43, 3) := by decide +kernel
theorem dX7_takeOff_72 : decode cX7_takeOff 72 = .ok (.iload_n 2, 1) := by decide +kernel
theorem dX7_takeOff_73 : decode cX7_takeOff 73 = .ok (.bipush 9, 2) := by decide +kernel
theorem dX7_takeOff_75 : decode cX7_takeOff 75 = .ok (.invokevirtual 205, 3) := by decide +kernel
theorem dX7_takeOff_78 : decode cX7_takeOff 78 = .ok (.aload_n 0, 1) := by decide +kernel
theorem dX7_takeOff_79 : decode cX7_takeOff 79 = .ok (.iload_n 3, 1) := by decide +kernel
theorem dX7_takeOff_80 : decode cX7_takeOff 80 = .ok (.invokevirtual 185, 3) := by decide +kernel
theorem dX7_takeOff_83 : decode cX7_takeOff 83 = .ok (.iload 4, 2) := by decide +kernel
theorem dX7_takeOff_85 : decode cX7_takeOff 85 = .ok (.ireturn, 1) := by decide +kernel
theorem dX7_undo_0 : decode cX7_undo 0 = .ok (.aload_n 0, 1) := by decide +kernel
theorem dX7_undo_1 : decode cX7_undo 1 = .ok (.getfield 208, 3) := by decide +kernel
theorem dX7_undo_4 : decode cX7_undo 4 = .ok (.ifCond .gt 13, 3) := by decide +kernel
theorem dX7_undo_7 : decode cX7_undo 7 = .ok (.new 73, 3) := by decide +kernel
theorem dX7_undo_10 : decode cX7_undo 10 = .ok (.dup, 1) := by decide +kernel
theorem dX7_undo_11 : decode cX7_undo 11 = .ok (.ldc 211, 2) := by decide +kernel
theorem dX7_undo_13 : decode cX7_undo 13 = .ok (.invokespecial 77, 3) := by decide +kernel
theorem dX7_undo_16 : decode cX7_undo 16 = .ok (.athrow, 1) := by decide +kernel
theorem dX7_undo_17 : decode cX7_undo 17 = .ok (.aload_n 0, 1) := by decide +kernel
theorem dX7_undo_18 : decode cX7_undo 18 = .ok (.dup, 1) := by decide +kernel
theorem dX7_undo_19 : decode cX7_undo 19 = .ok (.getfield 208, 3) := by decide +kernel
theorem dX7_undo_22 : decode cX7_undo 22 = .ok (.iconst 1, 1) := by decide +kernel
theorem dX7_undo_23 : decode cX7_undo 23 = .ok (.isub, 1) := by decide +kernel
theorem dX7_undo_24 : decode cX7_undo 24 = .ok (.putfield 208, 3) := by decide +kernel
theorem dX7_undo_27 : decode cX7_undo 27 = .ok (.aload_n 0, 1) := by decide +kernel
theorem dX7_undo_28 : decode cX7_undo 28 = .ok (.getfield 43, 3) := by decide +kernel
theorem dX7_undo_31 : decode cX7_undo 31 = .ok (.aload_n 0, 1) := by decide +kernel
theorem dX7_undo_32 : decode cX7_undo 32 = .ok (.getfield 11, 3) := by decide +kernel
theorem dX7_undo_35 : decode cX7_undo 35 = .ok (.aload_n 0, 1) := by decide +kernel
theorem dX7_undo_36 : decode cX7_undo 36 = .ok (.getfield 208, 3) := by decide +kernel
theorem dX7_undo_39 : decode cX7_undo 39 = .ok (.aaload, 1) := by decide +kernel
theorem dX7_undo_40 : decode cX7_undo 40 = .ok (.invokevirtual 213, 3) := by decide +kernel
theorem dX7_undo_43 : decode cX7_undo 43 = .ok (.aload_n 0, 1) := by decide +kernel
theorem dX7_undo_44 : decode cX7_undo 44 = .ok (.getfield 208, 3) := by decide +kernel
theorem dX7_undo_47 : decode cX7_undo 47 = .ok (.ireturn, 1) := by decide +kernel
theorem dX7_part_0 : decode cX7_part 0 = .ok (.aload_n 0, 1) := by decide +kernel
theorem dX7_part_1 : decode cX7_part 1 = .ok (.iload_n 1, 1) := by decide +kernel
theorem dX7_part_2 : decode cX7_part 2 = .ok (.invokevirtual 188, 3) := by decide +kernel
theorem dX7_part_5 : decode cX7_part 5 = .ok (.ifCond .ne 13, 3) := by decide +kernel
theorem dX7_part_8 : decode cX7_part 8 = .ok (.new 50, 3) := by decide +kernel
theorem dX7_part_11 : decode cX7_part 11 = .ok (.dup, 1) := by decide +kernel
theorem dX7_part_12 : decode cX7_part 12 = .ok (.ldc 191, 2) := by decide +kernel
theorem dX7_part_14 : decode cX7_part 14 = .ok (.invokespecial 54, 3) := by decide +kernel
theorem dX7_part_17 : decode cX7_part 17 = .ok (.athrow, 1) := by decide +kernel
theorem dX7_part_18 : decode cX7_part 18 = .ok (.iload_n 2, 1) := by decide +kernel
theorem dX7_part_19 : decode cX7_part 19 = .ok (.ifCond .lt 9, 3) := by decide +kernel
theorem dX7_part_22 : decode cX7_part 22 = .ok (.iload_n 2, 1) := by decide +kernel
theorem dX7_part_23 : decode cX7_part 23 = .ok (.bipush 10, 2) := by decide +kernel
theorem dX7_part_25 : decode cX7_part 25 = .ok (.if_icmp .lt 13, 3) := by decide +kernel
theorem dX7_part_28 : decode cX7_part 28 = .ok (.new 64, 3) := by decide +kernel
theorem dX7_part_31 : decode cX7_part 31 = .ok (.dup, 1) := by decide +kernel
theorem dX7_part_32 : decode cX7_part 32 = .ok (.ldc 217, 2) := by decide +kernel
theorem dX7_part_34 : decode cX7_part 34 = .ok (.invokespecial 68, 3) := by decide +kernel
theorem dX7_part_37 : decode cX7_part 37 = .ok (.athrow, 1) := by decide +kernel
theorem dX7_part_38 : decode cX7_part 38 = .ok (.aload_n 0, 1) := by decide +kernel
theorem dX7_part_39 : decode cX7_part 39 = .ok (.iload_n 1, 1) := by decide +kernel
theorem dX7_part_40 : decode cX7_part 40 = .ok (.iload_n 2, 1) := by decide +kernel
theorem dX7_part_41 : decode cX7_part 41 = .ok (.invokevirtual 219, 3) := by decide +kernel
theorem dX7_part_44 : decode cX7_part 44 = .ok (.ireturn, 1) := by decide +kernel
theorem dX7_lane_0 : decode cX7_lane 0 = .ok (.aload_n 0, 1) := by decide +kernel
theorem dX7_lane_1 : decode cX7_lane 1 = .ok (.getfield 43, 3) := by decide +kernel
theorem dX7_lane_4 : decode cX7_lane 4 = .ok (.iload_n 1, 1) := by decide +kernel
theorem dX7_lane_5 : decode cX7_lane 5 = .ok (.invokevirtual 105, 3) := by decide +kernel
theorem dX7_lane_8 : decode cX7_lane 8 = .ok (.ifCond .ne 13, 3) := by decide +kernel
theorem dX7_lane_11 : decode cX7_lane 11 = .ok (.new 50, 3) := by decide +kernel
theorem dX7_lane_14 : decode cX7_lane 14 = .ok (.dup, 1) := by decide +kernel
theorem dX7_lane_15 : decode cX7_lane 15 = .ok (.ldc 109, 2) := by decide +kernel
theorem dX7_lane_17 : decode cX7_lane 17 = .ok (.invokespecial 54, 3) := by decide +kernel
theorem dX7_lane_20 : decode cX7_lane 20 = .ok (.athrow, 1) := by decide +kernel
theorem dX7_lane_21 : decode cX7_lane 21 = .ok (.iload_n 2, 1) := by decide +kernel
theorem dX7_lane_22 : decode cX7_lane 22 = .ok (.ifCond .lt 9, 3) := by decide +kernel
theorem dX7_lane_25 : decode cX7_lane 25 = .ok (.iload_n 2, 1) := by decide +kernel
theorem dX7_lane_26 : decode cX7_lane 26 = .ok (.bipush 6, 2) := by decide +kernel
theorem dX7_lane_28 : decode cX7_lane 28 = .ok (.if_icmp .lt 13, 3) := by decide +kernel
theorem dX7_lane_31 : decode cX7_lane 31 = .ok (.new 64, 3) := by decide +kernel
theorem dX7_lane_34 : decode cX7_lane 34 = .ok (.dup, 1) := by decide +kernel
theorem dX7_lane_35 : decode cX7_lane 35 = .ok (.ldc 217, 2) := by decide +kernel
theorem dX7_lane_37 : decode cX7_lane 37 = .ok (.invokespecial 68, 3) := by decide +kernel
theorem dX7_lane_40 : decode cX7_lane 40 = .ok (.athrow, 1) := by decide +kernel
theorem dX7_lane_41 : decode cX7_lane 41 = .ok (.iload_n 2, 1) := by decide +kernel
theorem dX7_lane_42 : decode cX7_lane 42 = .ok (.iconst 5, 1) := by decide +kernel
theorem dX7_lane_43 : decode cX7_lane 43 = .ok (.if_icmp .ne 17, 3) := by decide +kernel
theorem dX7_lane_46 : decode cX7_lane 46 = .ok (.aload_n 0, 1) := by decide +kernel
theorem dX7_lane_47 : decode cX7_lane 47 = .ok (.getfield 43, 3) := by decide +kernel
theorem dX7_lane_50 : decode cX7_lane 50 = .ok (.getfield 116, 3) := by decide +kernel
theorem dX7_lane_53 : decode cX7_lane 53 = .ok (.iload_n 1, 1) := by decide +kernel
theorem dX7_lane_54 : decode cX7_lane 54 = .ok (.invokevirtual 223, 3) := by decide +kernel
theorem dX7_lane_57 : decode cX7_lane 57 = .ok (.goto 16, 3) := by decide +kernel
theorem dX7_lane_60 : decode cX7_lane 60 = .ok (.aload_n 0, 1) := by decide +kernel
theorem dX7_lane_61 : decode cX7_lane 61 = .ok (.getfield 43, 3) := by decide +kernel
theorem dX7_lane_64 : decode cX7_lane 64 = .ok (.getfield 95, 3) := by decide +kernel
theorem dX7_lane_67 : decode cX7_lane 67 = .ok (.iload_n 1, 1) := by decide +kernel
theorem dX7_lane_68 : decode cX7_lane 68 = .ok (.aaload, 1) := by decide +kernel
theorem dX7_lane_69 : decode cX7_lane 69 = .ok (.iload_n 2, 1) := by decide +kernel
theorem dX7_lane_70 : decode cX7_lane 70 = .ok (.invokevirtual 226, 3) := by decide +kernel
theorem dX7_lane_73 : decode cX7_lane 73 = .ok (.ireturn, 1) := by decide +kernel
theorem dX7_total_0 : decode cX7_total 0 = .ok (.iload_n 1, 1) := by decide +kernel
theorem dX7_total_1 : decode cX7_total 1 = .ok (.tableswitch 191 0 14 #[75, 83, 91, 99, 108, 116, 125, 133, 144, 152, 159, 166, 172, 178, 183], 75) := by decide +kernel
theorem dX7_total_76 : decode cX7_total 76 = .ok (.aload_n 0, 1) := by decide +kernel
theorem dX7_total_77 : decode cX7_total 77 = .ok (.getfield 43, 3) := by decide +kernel
theorem dX7_total_80 : decode cX7_total 80 = .ok (.getfield 163, 3) := by decide +kernel
theorem dX7_total_83 : decode cX7_total 83 = .ok (.ireturn, 1) := by decide +kernel
theorem dX7_total_84 : decode cX7_total 84 = .ok (.aload_n 0, 1) := by decide +kernel
theorem dX7_total_85 : decode cX7_total 85 = .ok (.getfield 43, 3) := by decide +kernel
theorem dX7_total_88 : decode cX7_total 88 = .ok (.getfield 148, 3) := by decide +kernel
theorem dX7_total_91 : decode cX7_total 91 = .ok (.ireturn, 1) := by decide +kernel
theorem dX7_total_92 : decode cX7_total 92 = .ok (.aload_n 0, 1) := by decide +kernel
theorem dX7_total_93 : decode cX7_total 93 = .ok (.getfield 43, 3) := by decide +kernel
theorem dX7_total_96 : decode cX7_total 96 = .ok (.getfield 69, 3) := by decide +kernel
theorem dX7_total_99 : decode cX7_total 99 = .ok (.ireturn, 1) := by decide +kernel
theorem dX7_total_100 : decode cX7_total 100 = .ok (.aload_n 0, 1) := by decide +kernel
theorem dX7_total_101 : decode cX7_total 101 = .ok (.bipush 10, 2) := by decide +kernel
theorem dX7_total_103 : decode cX7_total 103 = .ok (.bipush 15, 2) := by decide +kernel
theorem dX7_total_105 : decode cX7_total 105 = .ok (.invokevirtual 229, 3) := by decide +kernel
theorem dX7_total_108 : decode cX7_total 108 = .ok (.ireturn, 1) := by decide +kernel
theorem dX7_total_109 : decode cX7_total 109 = .ok (.aload_n 0, 1) := by decide +kernel
theorem dX7_total_110 : decode cX7_total 110 = .ok (.iconst 1, 1) := by decide +kernel
theorem dX7_total_111 : decode cX7_total 111 = .ok (.bipush 6, 2) := by decide +kernel
theorem dX7_total_113 : decode cX7_total 113 = .ok (.invokevirtual 229, 3) := by decide +kernel
theorem dX7_total_116 : decode cX7_total 116 = .ok (.ireturn, 1) := by decide +kernel
theorem dX7_total_117 : decode cX7_total 117 = .ok (.aload_n 0, 1) := by decide +kernel
theorem dX7_total_118 : decode cX7_total 118 = .ok (.bipush 9, 2) := by decide +kernel
theorem dX7_total_120 : decode cX7_total 120 = .ok (.bipush 9, 2) := by decide +kernel
theorem dX7_total_122 : decode cX7_total 122 = .ok (.invokevirtual 229, 3) := by decide +kernel
theorem dX7_total_125 : decode cX7_total 125 = .ok (.ireturn, 1) := by decide +kernel
theorem dX7_total_126 : decode cX7_total 126 = .ok (.aload_n 0, 1) := by decide +kernel
theorem dX7_total_127 : decode cX7_total 127 = .ok (.getfield 43, 3) := by decide +kernel
theorem dX7_total_130 : decode cX7_total 130 = .ok (.getfield 90, 3) := by decide +kernel
theorem dX7_total_133 : decode cX7_total 133 = .ok (.ireturn, 1) := by decide +kernel
theorem dX7_total_134 : decode cX7_total 134 = .ok (.aload_n 0, 1) := by decide +kernel
theorem dX7_total_135 : decode cX7_total 135 = .ok (.getfield 43, 3) := by decide +kernel
theorem dX7_total_138 : decode cX7_total 138 = .ok (.getfield 116, 3) := by decide +kernel
theorem dX7_total_141 : decode cX7_total 141 = .ok (.getfield 126, 3) := by decide +kernel
theorem dX7_total_144 : decode cX7_total 144 = .ok (.ireturn, 1) := by decide +kernel
theorem dX7_total_145 : decode cX7_total 145 = .ok (.aload_n 0, 1) := by decide +kernel
theorem dX7_total_146 : decode cX7_total 146 = .ok (.getfield 43, 3) := by decide +kernel
theorem dX7_total_149 : decode cX7_total 149 = .ok (.getfield 160, 3) := by decide +kernel
theorem dX7_total_152 : decode cX7_total 152 = .ok (.ireturn, 1) := by decide +kernel
theorem dX7_total_153 : decode cX7_total 153 = .ok (.aload_n 0, 1) := by decide +kernel
theorem dX7_total_154 : decode cX7_total 154 = .ok (.bipush 7, 2) := by decide +kernel
theorem dX7_total_156 : decode cX7_total 156 = .ok (.invokevirtual 232, 3) := by decide +kernel
theorem dX7_total_159 : decode cX7_total 159 = .ok (.ireturn, 1) := by decide +kernel
theorem dX7_total_160 : decode cX7_total 160 = .ok (.aload_n 0, 1) := by decide +kernel
theorem dX7_total_161 : decode cX7_total 161 = .ok (.bipush 6, 2) := by decide +kernel
theorem dX7_total_163 : decode cX7_total 163 = .ok (.invokevirtual 232, 3) := by decide +kernel
theorem dX7_total_166 : decode cX7_total 166 = .ok (.ireturn, 1) := by decide +kernel
theorem dX7_total_167 : decode cX7_total 167 = .ok (.aload_n 0, 1) := by decide +kernel
theorem dX7_total_168 : decode cX7_total 168 = .ok (.iconst 4, 1) := by decide +kernel
theorem dX7_total_169 : decode cX7_total 169 = .ok (.invokevirtual 232, 3) := by decide +kernel
theorem dX7_total_172 : decode cX7_total 172 = .ok (.ireturn, 1) := by decide +kernel
theorem dX7_total_173 : decode cX7_total 173 = .ok (.aload_n 0, 1) := by decide +kernel
theorem dX7_total_174 : decode cX7_total 174 = .ok (.iconst 5, 1) := by decide +kernel
theorem dX7_total_175 : decode cX7_total 175 = .ok (.invokevirtual 232, 3) := by decide +kernel
theorem dX7_total_178 : decode cX7_total 178 = .ok (.ireturn, 1) := by decide +kernel
theorem dX7_total_179 : decode cX7_total 179 = .ok (.aload_n 0, 1) := by decide +kernel
theorem dX7_total_180 : decode cX7_total 180 = .ok (.getfield 208, 3) := by decide +kernel
theorem dX7_total_183 : decode cX7_total 183 = .ok (.ireturn, 1) := by decide +kernel
theorem dX7_total_184 : decode cX7_total 184 = .ok (.aload_n 0, 1) := by decide +kernel
theorem dX7_total_185 : decode cX7_total 185 = .ok (.getfield 25, 3) := by decide +kernel
theorem dX7_total_188 : decode cX7_total 188 = .ok (.getfield 235, 3) := by decide +kernel
theorem dX7_total_191 : decode cX7_total 191 = .ok (.ireturn, 1) := by decide +kernel
theorem dX7_total_192 : decode cX7_total 192 = .ok (.new 64, 3) := by decide +kernel
theorem dX7_total_195 : decode cX7_total 195 = .ok (.dup, 1) := by decide +kernel
theorem dX7_total_196 : decode cX7_total 196 = .ok (.ldc 238, 2) := by decide +kernel
theorem dX7_total_198 : decode cX7_total 198 = .ok (.invokespecial 68, 3) := by decide +kernel
theorem dX7_total_201 : decode cX7_total 201 = .ok (.athrow, 1) := by decide +kernel
theorem dX7_lost_0 : decode cX7_lost 0 = .ok (.iload_n 1, 1) := by decide +kernel
theorem dX7_lost_1 : decode cX7_lost 1 = .ok (.iconst 1, 1) := by decide +kernel
theorem dX7_lost_2 : decode cX7_lost 2 = .ok (.if_icmp .lt 9, 3) := by decide +kernel
theorem dX7_lost_5 : decode cX7_lost 5 = .ok (.iload_n 1, 1) := by decide +kernel
theorem dX7_lost_6 : decode cX7_lost 6 = .ok (.bipush 6, 2) := by decide +kernel
theorem dX7_lost_8 : decode cX7_lost 8 = .ok (.if_icmp .le 13, 3) := by decide +kernel
theorem dX7_lost_11 : decode cX7_lost 11 = .ok (.new 64, 3) := by decide +kernel
theorem dX7_lost_14 : decode cX7_lost 14 = .ok (.dup, 1) := by decide +kernel
theorem dX7_lost_15 : decode cX7_lost 15 = .ok (.ldc 240, 2) := by decide +kernel
theorem dX7_lost_17 : decode cX7_lost 17 = .ok (.invokespecial 68, 3) := by decide +kernel
theorem dX7_lost_20 : decode cX7_lost 20 = .ok (.athrow, 1) := by decide +kernel
theorem dX7_lost_21 : decode cX7_lost 21 = .ok (.aload_n 0, 1) := by decide +kernel
theorem dX7_lost_22 : decode cX7_lost 22 = .ok (.iload_n 1, 1) := by decide +kernel
theorem dX7_lost_23 : decode cX7_lost 23 = .ok (.iload_n 1, 1) := by decide +kernel
theorem dX7_lost_24 : decode cX7_lost 24 = .ok (.invokevirtual 229, 3) := by decide +kernel
theorem dX7_lost_27 : decode cX7_lost 27 = .ok (.ireturn, 1) := by decide +kernel
theorem dX7_setting_0 : decode cX7_setting 0 = .ok (.iload_n 1, 1) := by decide +kernel
theorem dX7_setting_1 : decode cX7_setting 1 = .ok (.ifCond .lt 9, 3) := by decide +kernel
theorem dX7_setting_4 : decode cX7_setting 4 = .ok (.iload_n 1, 1) := by decide +kernel
theorem dX7_setting_5 : decode cX7_setting 5 = .ok (.bipush 6, 2) := by decide +kernel
theorem dX7_setting_7 : decode cX7_setting 7 = .ok (.if_icmp .lt 13, 3) := by decide +kernel
theorem dX7_setting_10 : decode cX7_setting 10 = .ok (.new 50, 3) := by decide +kernel
theorem dX7_setting_13 : decode cX7_setting 13 = .ok (.dup, 1) := by decide +kernel
theorem dX7_setting_14 : decode cX7_setting 14 = .ok (.ldc 52, 2) := by decide +kernel
theorem dX7_setting_16 : decode cX7_setting 16 = .ok (.invokespecial 54, 3) := by decide +kernel
theorem dX7_setting_19 : decode cX7_setting 19 = .ok (.athrow, 1) := by decide +kernel
theorem dX7_setting_20 : decode cX7_setting 20 = .ok (.aload_n 0, 1) := by decide +kernel
theorem dX7_setting_21 : decode cX7_setting 21 = .ok (.getfield 43, 3) := by decide +kernel
theorem dX7_setting_24 : decode cX7_setting 24 = .ok (.getfield 81, 3) := by decide +kernel
theorem dX7_setting_27 : decode cX7_setting 27 = .ok (.iload_n 1, 1) := by decide +kernel
theorem dX7_setting_28 : decode cX7_setting 28 = .ok (.iaload, 1) := by decide +kernel
theorem dX7_setting_29 : decode cX7_setting 29 = .ok (.ireturn, 1) := by decide +kernel
theorem dX7_routeAt_0 : decode cX7_routeAt 0 = .ok (.iload_n 1, 1) := by decide +kernel
theorem dX7_routeAt_1 : decode cX7_routeAt 1 = .ok (.ifCond .ge 13, 3) := by decide +kernel
theorem dX7_routeAt_4 : decode cX7_routeAt 4 = .ok (.new 64, 3) := by decide +kernel
theorem dX7_routeAt_7 : decode cX7_routeAt 7 = .ok (.dup, 1) := by decide +kernel
theorem dX7_routeAt_8 : decode cX7_routeAt 8 = .ok (.ldc 242, 2) := by decide +kernel
theorem dX7_routeAt_10 : decode cX7_routeAt 10 = .ok (.invokespecial 68, 3) := by decide +kernel
theorem dX7_routeAt_13 : decode cX7_routeAt 13 = .ok (.athrow, 1) := by decide +kernel
theorem dX7_routeAt_14 : decode cX7_routeAt 14 = .ok (.aload_n 0, 1) := by decide +kernel
theorem dX7_routeAt_15 : decode cX7_routeAt 15 = .ok (.getfield 43, 3) := by decide +kernel
theorem dX7_routeAt_18 : decode cX7_routeAt 18 = .ok (.getfield 116, 3) := by decide +kernel
theorem dX7_routeAt_21 : decode cX7_routeAt 21 = .ok (.iload_n 1, 1) := by decide +kernel
theorem dX7_routeAt_22 : decode cX7_routeAt 22 = .ok (.invokevirtual 244, 3) := by decide +kernel
theorem dX7_routeAt_25 : decode cX7_routeAt 25 = .ok (.ireturn, 1) := by decide +kernel
theorem dX7_gapAhead_0 : decode cX7_gapAhead 0 = .ok (.aload_n 0, 1) := by decide +kernel
theorem dX7_gapAhead_1 : decode cX7_gapAhead 1 = .ok (.iload_n 1, 1) := by decide +kernel
theorem dX7_gapAhead_2 : decode cX7_gapAhead 2 = .ok (.invokevirtual 188, 3) := by decide +kernel
theorem dX7_gapAhead_5 : decode cX7_gapAhead 5 = .ok (.ifCond .ne 13, 3) := by decide +kernel
theorem dX7_gapAhead_8 : decode cX7_gapAhead 8 = .ok (.new 50, 3) := by decide +kernel
theorem dX7_gapAhead_11 : decode cX7_gapAhead 11 = .ok (.dup, 1) := by decide +kernel
theorem dX7_gapAhead_12 : decode cX7_gapAhead 12 = .ok (.ldc 191, 2) := by decide +kernel
theorem dX7_gapAhead_14 : decode cX7_gapAhead 14 = .ok (.invokespecial 54, 3) := by decide +kernel
theorem dX7_gapAhead_17 : decode cX7_gapAhead 17 = .ok (.athrow, 1) := by decide +kernel
theorem dX7_gapAhead_18 : decode cX7_gapAhead 18 = .ok (.aload_n 0, 1) := by decide +kernel
theorem dX7_gapAhead_19 : decode cX7_gapAhead 19 = .ok (.getfield 43, 3) := by decide +kernel
theorem dX7_gapAhead_22 : decode cX7_gapAhead 22 = .ok (.iload_n 1, 1) := by decide +kernel
theorem dX7_gapAhead_23 : decode cX7_gapAhead 23 = .ok (.invokevirtual 193, 3) := by decide +kernel
theorem dX7_gapAhead_26 : decode cX7_gapAhead 26 = .ok (.istore_n 2, 1) := by decide +kernel
theorem dX7_gapAhead_27 : decode cX7_gapAhead 27 = .ok (.iload_n 2, 1) := by decide +kernel
theorem dX7_gapAhead_28 : decode cX7_gapAhead 28 = .ok (.iconst (-1), 1) := by decide +kernel
theorem dX7_gapAhead_29 : decode cX7_gapAhead 29 = .ok (.if_icmp .ne 13, 3) := by decide +kernel
theorem dX7_gapAhead_32 : decode cX7_gapAhead 32 = .ok (.new 73, 3) := by decide +kernel
theorem dX7_gapAhead_35 : decode cX7_gapAhead 35 = .ok (.dup, 1) := by decide +kernel
theorem dX7_gapAhead_36 : decode cX7_gapAhead 36 = .ok (.ldc 196, 2) := by decide +kernel
theorem dX7_gapAhead_38 : decode cX7_gapAhead 38 = .ok (.invokespecial 77, 3) := by decide +kernel
theorem dX7_gapAhead_41 : decode cX7_gapAhead 41 = .ok (.athrow, 1) := by decide +kernel
theorem dX7_gapAhead_42 : decode cX7_gapAhead 42 = .ok (.iload_n 2, 1) := by decide +kernel
theorem dX7_gapAhead_43 : decode cX7_gapAhead 43 = .ok (.ifCond .ne 7, 3) := by decide +kernel
theorem dX7_gapAhead_46 : decode cX7_gapAhead 46 = .ok (.iconst (-1), 1) := by decide +kernel
theorem dX7_gapAhead_47 : decode cX7_gapAhead 47 = .ok (.goto 14, 3) := by decide +kernel
theorem dX7_gapAhead_50 : decode cX7_gapAhead 50 = .ok (.aload_n 0, 1) := by decide +kernel
theorem dX7_gapAhead_51 : decode cX7_gapAhead 51 = .ok (.getfield 43, 3) := by decide +kernel
theorem dX7_gapAhead_54 : decode cX7_gapAhead 54 = .ok (.iload_n 2, 1) := by decide +kernel
theorem dX7_gapAhead_55 : decode cX7_gapAhead 55 = .ok (.iconst 1, 1) := by decide +kernel
theorem dX7_gapAhead_56 : decode cX7_gapAhead 56 = .ok (.isub, 1) := by decide +kernel
theorem dX7_gapAhead_57 : decode cX7_gapAhead 57 = .ok (.iload_n 2, 1) := by decide +kernel
theorem dX7_gapAhead_58 : decode cX7_gapAhead 58 = .ok (.invokevirtual 247, 3) := by decide +kernel
theorem dX7_gapAhead_61 : decode cX7_gapAhead 61 = .ok (.ireturn, 1) := by decide +kernel
theorem dX7_ranked_0 : decode cX7_ranked 0 = .ok (.iload_n 1, 1) := by decide +kernel
theorem dX7_ranked_1 : decode cX7_ranked 1 = .ok (.ifCond .ge 13, 3) := by decide +kernel
theorem dX7_ranked_4 : decode cX7_ranked 4 = .ok (.new 64, 3) := by decide +kernel
theorem dX7_ranked_7 : decode cX7_ranked 7 = .ok (.dup, 1) := by decide +kernel
theorem dX7_ranked_8 : decode cX7_ranked 8 = .ok (.ldc 250, 2) := by decide +kernel
theorem dX7_ranked_10 : decode cX7_ranked 10 = .ok (.invokespecial 68, 3) := by decide +kernel
theorem dX7_ranked_13 : decode cX7_ranked 13 = .ok (.athrow, 1) := by decide +kernel
theorem dX7_ranked_14 : decode cX7_ranked 14 = .ok (.aload_n 0, 1) := by decide +kernel
theorem dX7_ranked_15 : decode cX7_ranked 15 = .ok (.getfield 43, 3) := by decide +kernel
theorem dX7_ranked_18 : decode cX7_ranked 18 = .ok (.invokevirtual 179, 3) := by decide +kernel
theorem dX7_ranked_21 : decode cX7_ranked 21 = .ok (.iconst 0, 1) := by decide +kernel
theorem dX7_ranked_22 : decode cX7_ranked 22 = .ok (.istore_n 2, 1) := by decide +kernel
theorem dX7_ranked_23 : decode cX7_ranked 23 = .ok (.iload_n 2, 1) := by decide +kernel
theorem dX7_ranked_24 : decode cX7_ranked 24 = .ok (.aload_n 0, 1) := by decide +kernel
theorem dX7_ranked_25 : decode cX7_ranked 25 = .ok (.getfield 43, 3) := by decide +kernel
theorem dX7_ranked_28 : decode cX7_ranked 28 = .ok (.getfield 69, 3) := by decide +kernel
theorem dX7_ranked_31 : decode cX7_ranked 31 = .ok (.if_icmp .ge 34, 3) := by decide +kernel
theorem dX7_ranked_34 : decode cX7_ranked 34 = .ok (.aload_n 0, 1) := by decide +kernel
theorem dX7_ranked_35 : decode cX7_ranked 35 = .ok (.getfield 43, 3) := by decide +kernel
theorem dX7_ranked_38 : decode cX7_ranked 38 = .ok (.iload_n 2, 1) := by decide +kernel
theorem dX7_ranked_39 : decode cX7_ranked 39 = .ok (.invokevirtual 252, 3) := by decide +kernel
theorem dX7_ranked_42 : decode cX7_ranked 42 = .ok (.iload_n 1, 1) := by decide +kernel
theorem dX7_ranked_43 : decode cX7_ranked 43 = .ok (.if_icmp .ne 16, 3) := by decide +kernel
theorem dX7_ranked_46 : decode cX7_ranked 46 = .ok (.aload_n 0, 1) := by decide +kernel
theorem dX7_ranked_47 : decode cX7_ranked 47 = .ok (.getfield 43, 3) := by decide +kernel
theorem dX7_ranked_50 : decode cX7_ranked 50 = .ok (.getfield 198, 3) := by decide +kernel
theorem dX7_ranked_53 : decode cX7_ranked 53 = .ok (.iload_n 2, 1) := by decide +kernel
theorem dX7_ranked_54 : decode cX7_ranked 54 = .ok (.aaload, 1) := by decide +kernel
theorem dX7_ranked_55 : decode cX7_ranked 55 = .ok (.getfield 171, 3) := by decide +kernel
theorem dX7_ranked_58 : decode cX7_ranked 58 = .ok (.ireturn, 1) := by decide +kernel
theorem dX7_ranked_59 : decode cX7_ranked 59 = .ok (.iinc 2 1, 3) := by decide +kernel
theorem dX7_ranked_62 : decode cX7_ranked 62 = .ok (.goto (-39), 3) := by decide +kernel
theorem dX7_ranked_65 : decode cX7_ranked 65 = .ok (.iconst (-1), 1) := by decide +kernel
theorem dX7_ranked_66 : decode cX7_ranked 66 = .ok (.ireturn, 1) := by decide +kernel
theorem dX7_share_0 : decode cX7_share 0 = .ok (.aload_n 0, 1) := by decide +kernel
theorem dX7_share_1 : decode cX7_share 1 = .ok (.getfield 43, 3) := by decide +kernel
theorem dX7_share_4 : decode cX7_share 4 = .ok (.getfield 148, 3) := by decide +kernel
theorem dX7_share_7 : decode cX7_share 7 = .ok (.aload_n 0, 1) := by decide +kernel
theorem dX7_share_8 : decode cX7_share 8 = .ok (.getfield 43, 3) := by decide +kernel
theorem dX7_share_11 : decode cX7_share 11 = .ok (.getfield 69, 3) := by decide +kernel
theorem dX7_share_14 : decode cX7_share 14 = .ok (.isub, 1) := by decide +kernel
theorem dX7_share_15 : decode cX7_share 15 = .ok (.istore_n 1, 1) := by decide +kernel
theorem dX7_share_16 : decode cX7_share 16 = .ok (.iload_n 1, 1) := by decide +kernel
theorem dX7_share_17 : decode cX7_share 17 = .ok (.ifCond .gt 5, 3) := by decide +kernel
theorem dX7_share_20 : decode cX7_share 20 = .ok (.dconst 1, 1) := by decide +kernel
theorem dX7_share_21 : decode cX7_share 21 = .ok (.dreturn, 1) := by decide +kernel
theorem dX7_share_22 : decode cX7_share 22 = .ok (.aload_n 0, 1) := by decide +kernel
theorem dX7_share_23 : decode cX7_share 23 = .ok (.bipush 10, 2) := by decide +kernel
theorem dX7_share_25 : decode cX7_share 25 = .ok (.bipush 15, 2) := by decide +kernel
theorem dX7_share_27 : decode cX7_share 27 = .ok (.invokevirtual 229, 3) := by decide +kernel
theorem dX7_share_30 : decode cX7_share 30 = .ok (.i2d, 1) := by decide +kernel
theorem dX7_share_31 : decode cX7_share 31 = .ok (.iload_n 1, 1) := by decide +kernel
theorem dX7_share_32 : decode cX7_share 32 = .ok (.i2d, 1) := by decide +kernel
theorem dX7_share_33 : decode cX7_share 33 = .ok (.ddiv, 1) := by decide +kernel
theorem dX7_share_34 : decode cX7_share 34 = .ok (.dreturn, 1) := by decide +kernel
theorem dX7_fateOf_0 : decode cX7_fateOf 0 = .ok (.aload_n 0, 1) := by decide +kernel
theorem dX7_fateOf_1 : decode cX7_fateOf 1 = .ok (.iload_n 1, 1) := by decide +kernel
theorem dX7_fateOf_2 : decode cX7_fateOf 2 = .ok (.invokevirtual 188, 3) := by decide +kernel
theorem dX7_fateOf_5 : decode cX7_fateOf 5 = .ok (.ifCond .ne 13, 3) := by decide +kernel
theorem dX7_fateOf_8 : decode cX7_fateOf 8 = .ok (.new 50, 3) := by decide +kernel
theorem dX7_fateOf_11 : decode cX7_fateOf 11 = .ok (.dup, 1) := by decide +kernel
theorem dX7_fateOf_12 : decode cX7_fateOf 12 = .ok (.ldc 191, 2) := by decide +kernel
theorem dX7_fateOf_14 : decode cX7_fateOf 14 = .ok (.invokespecial 54, 3) := by decide +kernel
theorem dX7_fateOf_17 : decode cX7_fateOf 17 = .ok (.athrow, 1) := by decide +kernel
theorem dX7_fateOf_18 : decode cX7_fateOf 18 = .ok (.aload_n 0, 1) := by decide +kernel
theorem dX7_fateOf_19 : decode cX7_fateOf 19 = .ok (.invokevirtual 255, 3) := by decide +kernel
theorem dX7_fateOf_22 : decode cX7_fateOf 22 = .ok (.aload_n 0, 1) := by decide +kernel
theorem dX7_fateOf_23 : decode cX7_fateOf 23 = .ok (.getfield 47, 3) := by decide +kernel
theorem dX7_fateOf_26 : decode cX7_fateOf 26 = .ok (.iload_n 1, 1) := by decide +kernel
theorem dX7_fateOf_27 : decode cX7_fateOf 27 = .ok (.invokevirtual 193, 3) := by decide +kernel
theorem dX7_fateOf_30 : decode cX7_fateOf 30 = .ok (.istore_n 2, 1) := by decide +kernel
theorem dX7_fateOf_31 : decode cX7_fateOf 31 = .ok (.iload_n 2, 1) := by decide +kernel
theorem dX7_fateOf_32 : decode cX7_fateOf 32 = .ok (.iconst (-1), 1) := by decide +kernel
theorem dX7_fateOf_33 : decode cX7_fateOf 33 = .ok (.if_icmp .ne 10, 3) := by decide +kernel
theorem dX7_fateOf_36 : decode cX7_fateOf 36 = .ok (.aload_n 0, 1) := by decide +kernel
theorem dX7_fateOf_37 : decode cX7_fateOf 37 = .ok (.iload_n 1, 1) := by decide +kernel
theorem dX7_fateOf_38 : decode cX7_fateOf 38 = .ok (.iconst 1, 1) := by decide +kernel
theorem dX7_fateOf_39 : decode cX7_fateOf 39 = .ok (.invokevirtual 219, 3) := by decide +kernel
theorem dX7_fateOf_42 : decode cX7_fateOf 42 = .ok (.ireturn, 1) := by decide +kernel
theorem dX7_fateOf_43 : decode cX7_fateOf 43 = .ok (.aload_n 0, 1) := by decide +kernel
theorem dX7_fateOf_44 : decode cX7_fateOf 44 = .ok (.getfield 47, 3) := by decide +kernel
theorem dX7_fateOf_47 : decode cX7_fateOf 47 = .ok (.getfield 198, 3) := by decide +kernel
theorem dX7_fateOf_50 : decode cX7_fateOf 50 = .ok (.iload_n 2, 1) := by decide +kernel
theorem dX7_fateOf_51 : decode cX7_fateOf 51 = .ok (.aaload, 1) := by decide +kernel
theorem dX7_fateOf_52 : decode cX7_fateOf 52 = .ok (.astore_n 3, 1) := by decide +kernel
theorem dX7_fateOf_53 : decode cX7_fateOf 53 = .ok (.iconst 0, 1) := by decide +kernel
theorem dX7_fateOf_54 : decode cX7_fateOf 54 = .ok (.istore 4, 2) := by decide +kernel
theorem dX7_fateOf_56 : decode cX7_fateOf 56 = .ok (.iload 4, 2) := by decide +kernel
theorem dX7_fateOf_58 : decode cX7_fateOf 58 = .ok (.ldc_w 258, 3) := by decide +kernel
theorem dX7_fateOf_61 : decode cX7_fateOf 61 = .ok (.if_icmp .ge 27, 3) := by decide +kernel
theorem dX7_fateOf_64 : decode cX7_fateOf 64 = .ok (.aload_n 3, 1) := by decide +kernel
theorem dX7_fateOf_65 : decode cX7_fateOf 65 = .ok (.getfield 259, 3) := by decide +kernel
theorem dX7_fateOf_68 : decode cX7_fateOf 68 = .ok (.ifCond .ne 20, 3) := by decide +kernel
theorem dX7_fateOf_71 : decode cX7_fateOf 71 = .ok (.aload_n 0, 1) := by decide +kernel
theorem dX7_fateOf_72 : decode cX7_fateOf 72 = .ok (.getfield 47, 3) := by decide +kernel
theorem dX7_fateOf_75 : decode cX7_fateOf 75 = .ok (.ldc_w 258, 3) := by decide +kernel
theorem dX7_fateOf_78 : decode cX7_fateOf 78 = .ok (.invokevirtual 182, 3) := by decide +kernel
theorem dX7_fateOf_81 : decode cX7_fateOf 81 = .ok (.pop, 1) := by decide +kernel
theorem dX7_fateOf_82 : decode cX7_fateOf 82 = .ok (.iinc 4 1, 3) := by decide +kernel
theorem dX7_fateOf_85 : decode cX7_fateOf 85 = .ok (.goto (-29), 3) := by decide +kernel
theorem dX7_fateOf_88 : decode cX7_fateOf 88 = .ok (.aload_n 3, 1) := by decide +kernel
theorem dX7_fateOf_89 : decode cX7_fateOf 89 = .ok (.getfield 259, 3) := by decide +kernel
theorem dX7_fateOf_92 : decode cX7_fateOf 92 = .ok (.ireturn, 1) := by decide +kernel
theorem dX7_entryIn_0 : decode cX7_entryIn 0 = .ok (.aload_n 0, 1) := by decide +kernel
theorem dX7_entryIn_1 : decode cX7_entryIn 1 = .ok (.invokevirtual 255, 3) := by decide +kernel
theorem dX7_entryIn_4 : decode cX7_entryIn 4 = .ok (.iconst 0, 1) := by decide +kernel
theorem dX7_entryIn_5 : decode cX7_entryIn 5 = .ok (.istore_n 1, 1) := by decide +kernel
theorem dX7_entryIn_6 : decode cX7_entryIn 6 = .ok (.iconst 0, 1) := by decide +kernel
theorem dX7_entryIn_7 : decode cX7_entryIn 7 = .ok (.istore_n 2, 1) := by decide +kernel
theorem dX7_entryIn_8 : decode cX7_entryIn 8 = .ok (.iload_n 2, 1) := by decide +kernel
theorem dX7_entryIn_9 : decode cX7_entryIn 9 = .ok (.ldc_w 258, 3) := by decide +kernel
theorem dX7_entryIn_12 : decode cX7_entryIn 12 = .ok (.if_icmp .ge 45, 3) := by decide +kernel
theorem dX7_entryIn_15 : decode cX7_entryIn 15 = .ok (.aload_n 0, 1) := by decide +kernel
theorem dX7_entryIn_16 : decode cX7_entryIn 16 = .ok (.getfield 47, 3) := by decide +kernel
theorem dX7_entryIn_19 : decode cX7_entryIn 19 = .ok (.getfield 81, 3) := by decide +kernel
theorem dX7_entryIn_22 : decode cX7_entryIn 22 = .ok (.iconst 5, 1) := by decide +kernel
theorem dX7_entryIn_23 : decode cX7_entryIn 23 = .ok (.iaload, 1) := by decide +kernel
theorem dX7_entryIn_24 : decode cX7_entryIn 24 = .ok (.aload_n 0, 1) := by decide +kernel
theorem dX7_entryIn_25 : decode cX7_entryIn 25 = .ok (.getfield 47, 3) := by decide +kernel
theorem dX7_entryIn_28 : decode cX7_entryIn 28 = .ok (.invokevirtual 142, 3) := by decide +kernel
theorem dX7_entryIn_31 : decode cX7_entryIn 31 = .ok (.isub, 1) := by decide +kernel
theorem dX7_entryIn_32 : decode cX7_entryIn 32 = .ok (.istore_n 3, 1) := by decide +kernel
theorem dX7_entryIn_33 : decode cX7_entryIn 33 = .ok (.iload_n 3, 1) := by decide +kernel
theorem dX7_entryIn_34 : decode cX7_entryIn 34 = .ok (.ifCond .gt 6, 3) := by decide +kernel
theorem dX7_entryIn_37 : decode cX7_entryIn 37 = .ok (.goto 20, 3) := by decide +kernel
theorem dX7_entryIn_40 : decode cX7_entryIn 40 = .ok (.iload_n 1, 1) := by decide +kernel
theorem dX7_entryIn_41 : decode cX7_entryIn 41 = .ok (.aload_n 0, 1) := by decide +kernel
theorem dX7_entryIn_42 : decode cX7_entryIn 42 = .ok (.getfield 47, 3) := by decide +kernel
theorem dX7_entryIn_45 : decode cX7_entryIn 45 = .ok (.iload_n 3, 1) := by decide +kernel
theorem dX7_entryIn_46 : decode cX7_entryIn 46 = .ok (.invokevirtual 182, 3) := by decide +kernel
theorem dX7_entryIn_49 : decode cX7_entryIn 49 = .ok (.iadd, 1) := by decide +kernel
theorem dX7_entryIn_50 : decode cX7_entryIn 50 = .ok (.istore_n 1, 1) := by decide +kernel
theorem dX7_entryIn_51 : decode cX7_entryIn 51 = .ok (.iinc 2 1, 3) := by decide +kernel
theorem dX7_entryIn_54 : decode cX7_entryIn 54 = .ok (.goto (-46), 3) := by decide +kernel
theorem dX7_entryIn_57 : decode cX7_entryIn 57 = .ok (.iload_n 1, 1) := by decide +kernel
theorem dX7_entryIn_58 : decode cX7_entryIn 58 = .ok (.ireturn, 1) := by decide +kernel
theorem dX7_nextLeaving_0 : decode cX7_nextLeaving 0 = .ok (.aload_n 0, 1) := by decide +kernel
theorem dX7_nextLeaving_1 : decode cX7_nextLeaving 1 = .ok (.getfield 43, 3) := by decide +kernel
theorem dX7_nextLeaving_4 : decode cX7_nextLeaving 4 = .ok (.getfield 69, 3) := by decide +kernel
theorem dX7_nextLeaving_7 : decode cX7_nextLeaving 7 = .ok (.istore_n 1, 1) := by decide +kernel
theorem dX7_nextLeaving_8 : decode cX7_nextLeaving 8 = .ok (.iload_n 1, 1) := by decide +kernel
theorem dX7_nextLeaving_9 : decode cX7_nextLeaving 9 = .ok (.ifCond .ne 5, 3) := by decide +kernel
theorem dX7_nextLeaving_12 : decode cX7_nextLeaving 12 = .ok (.iconst (-1), 1) := by decide +kernel
theorem dX7_nextLeaving_13 : decode cX7_nextLeaving 13 = .ok (.ireturn, 1) := by decide +kernel
theorem dX7_nextLeaving_14 : decode cX7_nextLeaving 14 = .ok (.aload_n 0, 1) := by decide +kernel
theorem dX7_nextLeaving_15 : decode cX7_nextLeaving 15 = .ok (.invokevirtual 255, 3) := by decide +kernel
theorem dX7_nextLeaving_18 : decode cX7_nextLeaving 18 = .ok (.iconst 0, 1) := by decide +kernel
theorem dX7_nextLeaving_19 : decode cX7_nextLeaving 19 = .ok (.istore_n 2, 1) := by decide +kernel
theorem dX7_nextLeaving_20 : decode cX7_nextLeaving 20 = .ok (.iconst 0, 1) := by decide +kernel
theorem dX7_nextLeaving_21 : decode cX7_nextLeaving 21 = .ok (.istore_n 3, 1) := by decide +kernel
theorem dX7_nextLeaving_22 : decode cX7_nextLeaving 22 = .ok (.iload_n 3, 1) := by decide +kernel
theorem dX7_nextLeaving_23 : decode cX7_nextLeaving 23 = .ok (.ldc_w 258, 3) := by decide +kernel
theorem dX7_nextLeaving_26 : decode cX7_nextLeaving 26 = .ok (.if_icmp .ge 33, 3) := by decide +kernel
theorem dX7_nextLeaving_29 : decode cX7_nextLeaving 29 = .ok (.aload_n 0, 1) := by decide +kernel
theorem dX7_nextLeaving_30 : decode cX7_nextLeaving 30 = .ok (.getfield 47, 3) := by decide +kernel
theorem dX7_nextLeaving_33 : decode cX7_nextLeaving 33 = .ok (.getfield 69, 3) := by decide +kernel
theorem dX7_nextLeaving_36 : decode cX7_nextLeaving 36 = .ok (.iload_n 1, 1) := by decide +kernel
theorem dX7_nextLeaving_37 : decode cX7_nextLeaving 37 = .ok (.if_icmp .ne 22, 3) := by decide +kernel
theorem dX7_nextLeaving_40 : decode cX7_nextLeaving 40 = .ok (.iload_n 2, 1) := by decide +kernel
theorem dX7_nextLeaving_41 : decode cX7_nextLeaving 41 = .ok (.aload_n 0, 1) := by decide +kernel
theorem dX7_nextLeaving_42 : decode cX7_nextLeaving 42 = .ok (.getfield 47, 3) := by decide +kernel
theorem dX7_nextLeaving_45 : decode cX7_nextLeaving 45 = .ok (.ldc_w 258, 3) := by decide +kernel
theorem dX7_nextLeaving_48 : decode cX7_nextLeaving 48 = .ok (.invokevirtual 182, 3) := by decide +kernel
theorem dX7_nextLeaving_51 : decode cX7_nextLeaving 51 = .ok (.iadd, 1) := by decide +kernel
theorem dX7_nextLeaving_52 : decode cX7_nextLeaving 52 = .ok (.istore_n 2, 1) := by decide +kernel
theorem dX7_nextLeaving_53 : decode cX7_nextLeaving 53 = .ok (.iinc 3 1, 3) := by decide +kernel
theorem dX7_nextLeaving_56 : decode cX7_nextLeaving 56 = .ok (.goto (-34), 3) := by decide +kernel
theorem dX7_nextLeaving_59 : decode cX7_nextLeaving 59 = .ok (.iload_n 2, 1) := by decide +kernel
theorem dX7_nextLeaving_60 : decode cX7_nextLeaving 60 = .ok (.ireturn, 1) := by decide +kernel
theorem dX7_laneFor_0 : decode cX7_laneFor 0 = .ok (.iload_n 1, 1) := by decide +kernel
theorem dX7_laneFor_1 : decode cX7_laneFor 1 = .ok (.ifCond .lt 10, 3) := by decide +kernel
theorem dX7_laneFor_4 : decode cX7_laneFor 4 = .ok (.iload_n 1, 1) := by decide +kernel
theorem dX7_laneFor_5 : decode cX7_laneFor 5 = .ok (.sipush 999, 3) := by decide +kernel
theorem dX7_laneFor_8 : decode cX7_laneFor 8 = .ok (.if_icmp .le 13, 3) := by decide +kernel
theorem dX7_laneFor_11 : decode cX7_laneFor 11 = .ok (.new 64, 3) := by decide +kernel
theorem dX7_laneFor_14 : decode cX7_laneFor 14 = .ok (.dup, 1) := by decide +kernel
theorem dX7_laneFor_15 : decode cX7_laneFor 15 = .ok (.ldc 114, 2) := by decide +kernel
theorem dX7_laneFor_17 : decode cX7_laneFor 17 = .ok (.invokespecial 68, 3) := by decide +kernel
theorem dX7_laneFor_20 : decode cX7_laneFor 20 = .ok (.athrow, 1) := by decide +kernel
theorem dX7_laneFor_21 : decode cX7_laneFor 21 = .ok (.iload_n 2, 1) := by decide +kernel
theorem dX7_laneFor_22 : decode cX7_laneFor 22 = .ok (.bipush 10, 2) := by decide +kernel
theorem dX7_laneFor_24 : decode cX7_laneFor 24 = .ok (.if_icmp .lt 10, 3) := by decide +kernel
theorem dX7_laneFor_27 : decode cX7_laneFor 27 = .ok (.iload_n 2, 1) := by decide +kernel
theorem dX7_laneFor_28 : decode cX7_laneFor 28 = .ok (.sipush 400, 3) := by decide +kernel
theorem dX7_laneFor_31 : decode cX7_laneFor 31 = .ok (.if_icmp .le 13, 3) := by decide +kernel
theorem dX7_laneFor_34 : decode cX7_laneFor 34 = .ok (.new 64, 3) := by decide +kernel
theorem dX7_laneFor_37 : decode cX7_laneFor 37 = .ok (.dup, 1) := by decide +kernel
theorem dX7_laneFor_38 : decode cX7_laneFor 38 = .ok (.ldc 140, 2) := by decide +kernel
theorem dX7_laneFor_40 : decode cX7_laneFor 40 = .ok (.invokespecial 68, 3) := by decide +kernel
theorem dX7_laneFor_43 : decode cX7_laneFor 43 = .ok (.athrow, 1) := by decide +kernel
theorem dX7_laneFor_44 : decode cX7_laneFor 44 = .ok (.aload_n 0, 1) := by decide +kernel
theorem dX7_laneFor_45 : decode cX7_laneFor 45 = .ok (.getfield 43, 3) := by decide +kernel
theorem dX7_laneFor_48 : decode cX7_laneFor 48 = .ok (.iload_n 1, 1) := by decide +kernel
theorem dX7_laneFor_49 : decode cX7_laneFor 49 = .ok (.iload_n 2, 1) := by decide +kernel
theorem dX7_laneFor_50 : decode cX7_laneFor 50 = .ok (.invokevirtual 262, 3) := by decide +kernel
theorem dX7_laneFor_53 : decode cX7_laneFor 53 = .ok (.ireturn, 1) := by decide +kernel
theorem dX7_append_0 : decode cX7_append 0 = .ok (.iload_n 1, 1) := by decide +kernel
theorem dX7_append_1 : decode cX7_append 1 = .ok (.bipush 32, 2) := by decide +kernel
theorem dX7_append_3 : decode cX7_append 3 = .ok (.if_icmp .lt 9, 3) := by decide +kernel
theorem dX7_append_6 : decode cX7_append 6 = .ok (.iload_n 1, 1) := by decide +kernel
theorem dX7_append_7 : decode cX7_append 7 = .ok (.bipush 126, 2) := by decide +kernel
theorem dX7_append_9 : decode cX7_append 9 = .ok (.if_icmp .le 14, 3) := by decide +kernel
theorem dX7_append_12 : decode cX7_append 12 = .ok (.new 64, 3) := by decide +kernel
theorem dX7_append_15 : decode cX7_append 15 = .ok (.dup, 1) := by decide +kernel
theorem dX7_append_16 : decode cX7_append 16 = .ok (.ldc_w 265, 3) := by decide +kernel
theorem dX7_append_19 : decode cX7_append 19 = .ok (.invokespecial 68, 3) := by decide +kernel
theorem dX7_append_22 : decode cX7_append 22 = .ok (.athrow, 1) := by decide +kernel
theorem dX7_append_23 : decode cX7_append 23 = .ok (.aload_n 0, 1) := by decide +kernel
theorem dX7_append_24 : decode cX7_append 24 = .ok (.getfield 25, 3) := by decide +kernel
theorem dX7_append_27 : decode cX7_append 27 = .ok (.getfield 235, 3) := by decide +kernel
theorem dX7_append_30 : decode cX7_append 30 = .ok (.bipush 80, 2) := by decide +kernel
theorem dX7_append_32 : decode cX7_append 32 = .ok (.if_icmp .lt 14, 3) := by decide +kernel
theorem dX7_append_35 : decode cX7_append 35 = .ok (.new 73, 3) := by decide +kernel
theorem dX7_append_38 : decode cX7_append 38 = .ok (.dup, 1) := by decide +kernel
theorem dX7_append_39 : decode cX7_append 39 = .ok (.ldc_w 267, 3) := by decide +kernel
theorem dX7_append_42 : decode cX7_append 42 = .ok (.invokespecial 77, 3) := by decide +kernel
theorem dX7_append_45 : decode cX7_append 45 = .ok (.athrow, 1) := by decide +kernel
theorem dX7_append_46 : decode cX7_append 46 = .ok (.aload_n 0, 1) := by decide +kernel
theorem dX7_append_47 : decode cX7_append 47 = .ok (.getfield 25, 3) := by decide +kernel
theorem dX7_append_50 : decode cX7_append 50 = .ok (.iload_n 1, 1) := by decide +kernel
theorem dX7_append_51 : decode cX7_append 51 = .ok (.invokevirtual 269, 3) := by decide +kernel
theorem dX7_append_54 : decode cX7_append 54 = .ok (.aload_n 0, 1) := by decide +kernel
theorem dX7_append_55 : decode cX7_append 55 = .ok (.getfield 25, 3) := by decide +kernel
theorem dX7_append_58 : decode cX7_append 58 = .ok (.getfield 235, 3) := by decide +kernel
theorem dX7_append_61 : decode cX7_append 61 = .ok (.ireturn, 1) := by decide +kernel
theorem dX7_clear_0 : decode cX7_clear 0 = .ok (.aload_n 0, 1) := by decide +kernel
theorem dX7_clear_1 : decode cX7_clear 1 = .ok (.getfield 25, 3) := by decide +kernel
theorem dX7_clear_4 : decode cX7_clear 4 = .ok (.getfield 235, 3) := by decide +kernel
theorem dX7_clear_7 : decode cX7_clear 7 = .ok (.istore_n 1, 1) := by decide +kernel
theorem dX7_clear_8 : decode cX7_clear 8 = .ok (.aload_n 0, 1) := by decide +kernel
theorem dX7_clear_9 : decode cX7_clear 9 = .ok (.getfield 25, 3) := by decide +kernel
theorem dX7_clear_12 : decode cX7_clear 12 = .ok (.iconst 0, 1) := by decide +kernel
theorem dX7_clear_13 : decode cX7_clear 13 = .ok (.putfield 235, 3) := by decide +kernel
theorem dX7_clear_16 : decode cX7_clear 16 = .ok (.iload_n 1, 1) := by decide +kernel
theorem dX7_clear_17 : decode cX7_clear 17 = .ok (.ireturn, 1) := by decide +kernel
theorem dX7_errorPosition_0 : decode cX7_errorPosition 0 = .ok (.aload_n 0, 1) := by decide +kernel
theorem dX7_errorPosition_1 : decode cX7_errorPosition 1 = .ok (.getfield 25, 3) := by decide +kernel
theorem dX7_errorPosition_4 : decode cX7_errorPosition 4 = .ok (.aload_n 0, 1) := by decide +kernel
theorem dX7_errorPosition_5 : decode cX7_errorPosition 5 = .ok (.getfield 32, 3) := by decide +kernel
theorem dX7_errorPosition_8 : decode cX7_errorPosition 8 = .ok (.invokevirtual 272, 3) := by decide +kernel
theorem dX7_errorPosition_11 : decode cX7_errorPosition 11 = .ok (.ireturn, 1) := by decide +kernel
theorem dX7_load_0 : decode cX7_load 0 = .ok (.aload_n 0, 1) := by decide +kernel
theorem dX7_load_1 : decode cX7_load 1 = .ok (.getfield 25, 3) := by decide +kernel
theorem dX7_load_4 : decode cX7_load 4 = .ok (.aload_n 0, 1) := by decide +kernel
theorem dX7_load_5 : decode cX7_load 5 = .ok (.getfield 32, 3) := by decide +kernel
theorem dX7_load_8 : decode cX7_load 8 = .ok (.invokevirtual 272, 3) := by decide +kernel
theorem dX7_load_11 : decode cX7_load 11 = .ok (.iconst (-1), 1) := by decide +kernel
theorem dX7_load_12 : decode cX7_load 12 = .ok (.if_icmp .eq 14, 3) := by decide +kernel
theorem dX7_load_15 : decode cX7_load 15 = .ok (.new 73, 3) := by decide +kernel
theorem dX7_load_18 : decode cX7_load 18 = .ok (.dup, 1) := by decide +kernel
theorem dX7_load_19 : decode cX7_load 19 = .ok (.ldc_w 276, 3) := by decide +kernel
theorem dX7_load_22 : decode cX7_load 22 = .ok (.invokespecial 77, 3) := by decide +kernel
theorem dX7_load_25 : decode cX7_load 25 = .ok (.athrow, 1) := by decide +kernel
theorem dX7_load_26 : decode cX7_load 26 = .ok (.aload_n 0, 1) := by decide +kernel
theorem dX7_load_27 : decode cX7_load 27 = .ok (.invokevirtual 78, 3) := by decide +kernel
theorem dX7_load_30 : decode cX7_load 30 = .ok (.aload_n 0, 1) := by decide +kernel
theorem dX7_load_31 : decode cX7_load 31 = .ok (.getfield 43, 3) := by decide +kernel
theorem dX7_load_34 : decode cX7_load 34 = .ok (.aload_n 0, 1) := by decide +kernel
theorem dX7_load_35 : decode cX7_load 35 = .ok (.getfield 32, 3) := by decide +kernel
theorem dX7_load_38 : decode cX7_load 38 = .ok (.putfield 278, 3) := by decide +kernel
theorem dX7_load_41 : decode cX7_load 41 = .ok (.aload_n 0, 1) := by decide +kernel
theorem dX7_load_42 : decode cX7_load 42 = .ok (.new 29, 3) := by decide +kernel
theorem dX7_load_45 : decode cX7_load 45 = .ok (.dup, 1) := by decide +kernel
theorem dX7_load_46 : decode cX7_load 46 = .ok (.invokespecial 31, 3) := by decide +kernel
theorem dX7_load_49 : decode cX7_load 49 = .ok (.putfield 32, 3) := by decide +kernel
theorem dX7_load_52 : decode cX7_load 52 = .ok (.aload_n 0, 1) := by decide +kernel
theorem dX7_load_53 : decode cX7_load 53 = .ok (.getfield 25, 3) := by decide +kernel
theorem dX7_load_56 : decode cX7_load 56 = .ok (.iconst 0, 1) := by decide +kernel
theorem dX7_load_57 : decode cX7_load 57 = .ok (.putfield 235, 3) := by decide +kernel
theorem dX7_load_60 : decode cX7_load 60 = .ok (.aload_n 0, 1) := by decide +kernel
theorem dX7_load_61 : decode cX7_load 61 = .ok (.getfield 43, 3) := by decide +kernel
theorem dX7_load_64 : decode cX7_load 64 = .ok (.getfield 278, 3) := by decide +kernel
theorem dX7_load_67 : decode cX7_load 67 = .ok (.getfield 281, 3) := by decide +kernel
theorem dX7_load_70 : decode cX7_load 70 = .ok (.ireturn, 1) := by decide +kernel
theorem dX7_save_0 : decode cX7_save 0 = .ok (.aload_n 0, 1) := by decide +kernel
theorem dX7_save_1 : decode cX7_save 1 = .ok (.getfield 208, 3) := by decide +kernel
theorem dX7_save_4 : decode cX7_save 4 = .ok (.bipush 6, 2) := by decide +kernel
theorem dX7_save_6 : decode cX7_save 6 = .ok (.if_icmp .lt 7, 3) := by decide +kernel
theorem dX7_save_9 : decode cX7_save 9 = .ok (.aload_n 0, 1) := by decide +kernel
theorem dX7_save_10 : decode cX7_save 10 = .ok (.invokevirtual 284, 3) := by decide +kernel
theorem dX7_save_13 : decode cX7_save 13 = .ok (.aload_n 0, 1) := by decide +kernel
theorem dX7_save_14 : decode cX7_save 14 = .ok (.getfield 11, 3) := by decide +kernel
theorem dX7_save_17 : decode cX7_save 17 = .ok (.aload_n 0, 1) := by decide +kernel
theorem dX7_save_18 : decode cX7_save 18 = .ok (.getfield 208, 3) := by decide +kernel
theorem dX7_save_21 : decode cX7_save 21 = .ok (.aaload, 1) := by decide +kernel
theorem dX7_save_22 : decode cX7_save 22 = .ok (.aload_n 0, 1) := by decide +kernel
theorem dX7_save_23 : decode cX7_save 23 = .ok (.getfield 43, 3) := by decide +kernel
theorem dX7_save_26 : decode cX7_save 26 = .ok (.invokevirtual 213, 3) := by decide +kernel
theorem dX7_save_29 : decode cX7_save 29 = .ok (.aload_n 0, 1) := by decide +kernel
theorem dX7_save_30 : decode cX7_save 30 = .ok (.dup, 1) := by decide +kernel
theorem dX7_save_31 : decode cX7_save 31 = .ok (.getfield 208, 3) := by decide +kernel
theorem dX7_save_34 : decode cX7_save 34 = .ok (.iconst 1, 1) := by decide +kernel
theorem dX7_save_35 : decode cX7_save 35 = .ok (.iadd, 1) := by decide +kernel
theorem dX7_save_36 : decode cX7_save 36 = .ok (.putfield 208, 3) := by decide +kernel
theorem dX7_save_39 : decode cX7_save 39 = .ok (.return_, 1) := by decide +kernel
theorem dX7_dropOldestSaved_0 : decode cX7_dropOldestSaved 0 = .ok (.aload_n 0, 1) := by decide +kernel
theorem dX7_dropOldestSaved_1 : decode cX7_dropOldestSaved 1 = .ok (.getfield 11, 3) := by decide +kernel
theorem dX7_dropOldestSaved_4 : decode cX7_dropOldestSaved 4 = .ok (.iconst 0, 1) := by decide +kernel
theorem dX7_dropOldestSaved_5 : decode cX7_dropOldestSaved 5 = .ok (.aaload, 1) := by decide +kernel
theorem dX7_dropOldestSaved_6 : decode cX7_dropOldestSaved 6 = .ok (.astore_n 1, 1) := by decide +kernel
theorem dX7_dropOldestSaved_7 : decode cX7_dropOldestSaved 7 = .ok (.iconst 1, 1) := by decide +kernel
theorem dX7_dropOldestSaved_8 : decode cX7_dropOldestSaved 8 = .ok (.istore_n 2, 1) := by decide +kernel
theorem dX7_dropOldestSaved_9 : decode cX7_dropOldestSaved 9 = .ok (.iload_n 2, 1) := by decide +kernel
theorem dX7_dropOldestSaved_10 : decode cX7_dropOldestSaved 10 = .ok (.bipush 6, 2) := by decide +kernel
theorem dX7_dropOldestSaved_12 : decode cX7_dropOldestSaved 12 = .ok (.if_icmp .ge 23, 3) := by decide +kernel
theorem dX7_dropOldestSaved_15 : decode cX7_dropOldestSaved 15 = .ok (.aload_n 0, 1) := by decide +kernel
theorem dX7_dropOldestSaved_16 : decode cX7_dropOldestSaved 16 = .ok (.getfield 11, 3) := by decide +kernel
theorem dX7_dropOldestSaved_19 : decode cX7_dropOldestSaved 19 = .ok (.iload_n 2, 1) := by decide +kernel
theorem dX7_dropOldestSaved_20 : decode cX7_dropOldestSaved 20 = .ok (.iconst 1, 1) := by decide +kernel
theorem dX7_dropOldestSaved_21 : decode cX7_dropOldestSaved 21 = .ok (.isub, 1) := by decide +kernel
theorem dX7_dropOldestSaved_22 : decode cX7_dropOldestSaved 22 = .ok (.aload_n 0, 1) := by decide +kernel
theorem dX7_dropOldestSaved_23 : decode cX7_dropOldestSaved 23 = .ok (.getfield 11, 3) := by decide +kernel
theorem dX7_dropOldestSaved_26 : decode cX7_dropOldestSaved 26 = .ok (.iload_n 2, 1) := by decide +kernel
theorem dX7_dropOldestSaved_27 : decode cX7_dropOldestSaved 27 = .ok (.aaload, 1) := by decide +kernel
theorem dX7_dropOldestSaved_28 : decode cX7_dropOldestSaved 28 = .ok (.aastore, 1) := by decide +kernel
theorem dX7_dropOldestSaved_29 : decode cX7_dropOldestSaved 29 = .ok (.iinc 2 1, 3) := by decide +kernel
theorem dX7_dropOldestSaved_32 : decode cX7_dropOldestSaved 32 = .ok (.goto (-23), 3) := by decide +kernel
theorem dX7_dropOldestSaved_35 : decode cX7_dropOldestSaved 35 = .ok (.aload_n 0, 1) := by decide +kernel
theorem dX7_dropOldestSaved_36 : decode cX7_dropOldestSaved 36 = .ok (.getfield 11, 3) := by decide +kernel
theorem dX7_dropOldestSaved_39 : decode cX7_dropOldestSaved 39 = .ok (.iconst 5, 1) := by decide +kernel
theorem dX7_dropOldestSaved_40 : decode cX7_dropOldestSaved 40 = .ok (.aload_n 1, 1) := by decide +kernel
theorem dX7_dropOldestSaved_41 : decode cX7_dropOldestSaved 41 = .ok (.aastore, 1) := by decide +kernel
theorem dX7_dropOldestSaved_42 : decode cX7_dropOldestSaved 42 = .ok (.aload_n 0, 1) := by decide +kernel
theorem dX7_dropOldestSaved_43 : decode cX7_dropOldestSaved 43 = .ok (.iconst 5, 1) := by decide +kernel
theorem dX7_dropOldestSaved_44 : decode cX7_dropOldestSaved 44 = .ok (.putfield 208, 3) := by decide +kernel
theorem dX7_dropOldestSaved_47 : decode cX7_dropOldestSaved 47 = .ok (.return_, 1) := by decide +kernel
theorem dX7_hasEntered_0 : decode cX7_hasEntered 0 = .ok (.iload_n 1, 1) := by decide +kernel
theorem dX7_hasEntered_1 : decode cX7_hasEntered 1 = .ok (.ifCond .lt 18, 3) := by decide +kernel
theorem dX7_hasEntered_4 : decode cX7_hasEntered 4 = .ok (.iload_n 1, 1) := by decide +kernel
theorem dX7_hasEntered_5 : decode cX7_hasEntered 5 = .ok (.aload_n 0, 1) := by decide +kernel
theorem dX7_hasEntered_6 : decode cX7_hasEntered 6 = .ok (.getfield 43, 3) := by decide +kernel
theorem dX7_hasEntered_9 : decode cX7_hasEntered 9 = .ok (.getfield 148, 3) := by decide +kernel
theorem dX7_hasEntered_12 : decode cX7_hasEntered 12 = .ok (.if_icmp .ge 7, 3) := by decide +kernel
theorem dX7_hasEntered_15 : decode cX7_hasEntered 15 = .ok (.iconst 1, 1) := by decide +kernel
theorem dX7_hasEntered_16 : decode cX7_hasEntered 16 = .ok (.goto 4, 3) := by decide +kernel
theorem dX7_hasEntered_19 : decode cX7_hasEntered 19 = .ok (.iconst 0, 1) := by decide +kernel
theorem dX7_hasEntered_20 : decode cX7_hasEntered 20 = .ok (.ireturn, 1) := by decide +kernel
theorem dX7_keepDeparted_0 : decode cX7_keepDeparted 0 = .ok (.aload_n 0, 1) := by decide +kernel
theorem dX7_keepDeparted_1 : decode cX7_keepDeparted 1 = .ok (.getfield 43, 3) := by decide +kernel
theorem dX7_keepDeparted_4 : decode cX7_keepDeparted 4 = .ok (.getfield 69, 3) := by decide +kernel
theorem dX7_keepDeparted_7 : decode cX7_keepDeparted 7 = .ok (.istore_n 2, 1) := by decide +kernel
theorem dX7_keepDeparted_8 : decode cX7_keepDeparted 8 = .ok (.iload_n 2, 1) := by decide +kernel
theorem dX7_keepDeparted_9 : decode cX7_keepDeparted 9 = .ok (.iload_n 1, 1) := by decide +kernel
theorem dX7_keepDeparted_10 : decode cX7_keepDeparted 10 = .ok (.if_icmp .ge 31, 3) := by decide +kernel
theorem dX7_keepDeparted_13 : decode cX7_keepDeparted 13 = .ok (.iload_n 2, 1) := by decide +kernel
theorem dX7_keepDeparted_14 : decode cX7_keepDeparted 14 = .ok (.bipush 20, 2) := by decide +kernel
theorem dX7_keepDeparted_16 : decode cX7_keepDeparted 16 = .ok (.if_icmp .ge 25, 3) := by decide +kernel
theorem dX7_keepDeparted_19 : decode cX7_keepDeparted 19 = .ok (.aload_n 0, 1) := by decide +kernel
theorem dX7_keepDeparted_20 : decode cX7_keepDeparted 20 = .ok (.getfield 18, 3) := by decide +kernel
theorem dX7_keepDeparted_23 : decode cX7_keepDeparted 23 = .ok (.aload_n 0, 1) := by decide +kernel
theorem dX7_keepDeparted_24 : decode cX7_keepDeparted 24 = .ok (.getfield 43, 3) := by decide +kernel
theorem dX7_keepDeparted_27 : decode cX7_keepDeparted 27 = .ok (.getfield 198, 3) := by decide +kernel
theorem dX7_keepDeparted_30 : decode cX7_keepDeparted 30 = .ok (.iload_n 2, 1) := by decide +kernel
theorem dX7_keepDeparted_31 : decode cX7_keepDeparted 31 = .ok (.aaload, 1) := by decide +kernel
theorem dX7_keepDeparted_32 : decode cX7_keepDeparted 32 = .ok (.invokevirtual 287, 3) := by decide +kernel
theorem dX7_keepDeparted_35 : decode cX7_keepDeparted 35 = .ok (.iinc 2 1, 3) := by decide +kernel
theorem dX7_keepDeparted_38 : decode cX7_keepDeparted 38 = .ok (.goto (-30), 3) := by decide +kernel
theorem dX7_keepDeparted_41 : decode cX7_keepDeparted 41 = .ok (.return_, 1) := by decide +kernel
theorem dX7_partProperty_0 : decode cX7_partProperty 0 = .ok (.aload_n 0, 1) := by decide +kernel
theorem dX7_partProperty_1 : decode cX7_partProperty 1 = .ok (.getfield 43, 3) := by decide +kernel
theorem dX7_partProperty_4 : decode cX7_partProperty 4 = .ok (.iload_n 1, 1) := by decide +kernel
theorem dX7_partProperty_5 : decode cX7_partProperty 5 = .ok (.invokevirtual 193, 3) := by decide +kernel
theorem dX7_partProperty_8 : decode cX7_partProperty 8 = .ok (.istore_n 3, 1) := by decide +kernel
theorem dX7_partProperty_9 : decode cX7_partProperty 9 = .ok (.iload_n 3, 1) := by decide +kernel
theorem dX7_partProperty_10 : decode cX7_partProperty 10 = .ok (.iconst (-1), 1) := by decide +kernel
theorem dX7_partProperty_11 : decode cX7_partProperty 11 = .ok (.if_icmp .ne 13, 3) := by decide +kernel
theorem dX7_partProperty_14 : decode cX7_partProperty 14 = .ok (.aload_n 0, 1) := by decide +kernel
theorem dX7_partProperty_15 : decode cX7_partProperty 15 = .ok (.getfield 18, 3) := by decide +kernel
theorem dX7_partProperty_18 : decode cX7_partProperty 18 = .ok (.iload_n 1, 1) := by decide +kernel
theorem dX7_partProperty_19 : decode cX7_partProperty 19 = .ok (.iload_n 2, 1) := by decide +kernel
theorem dX7_partProperty_20 : decode cX7_partProperty 20 = .ok (.invokevirtual 291, 3) := by decide +kernel
theorem dX7_partProperty_23 : decode cX7_partProperty 23 = .ok (.ireturn, 1) := by decide +kernel
theorem dX7_partProperty_24 : decode cX7_partProperty 24 = .ok (.iload_n 2, 1) := by decide +kernel
theorem dX7_partProperty_25 : decode cX7_partProperty 25 = .ok (.bipush 8, 2) := by decide +kernel
theorem dX7_partProperty_27 : decode cX7_partProperty 27 = .ok (.if_icmp .ne 22, 3) := by decide +kernel
theorem dX7_partProperty_30 : decode cX7_partProperty 30 = .ok (.aload_n 0, 1) := by decide +kernel
theorem dX7_partProperty_31 : decode cX7_partProperty 31 = .ok (.getfield 43, 3) := by decide +kernel
theorem dX7_partProperty_34 : decode cX7_partProperty 34 = .ok (.aload_n 0, 1) := by decide +kernel
theorem dX7_partProperty_35 : decode cX7_partProperty 35 = .ok (.getfield 43, 3) := by decide +kernel
theorem dX7_partProperty_38 : decode cX7_partProperty 38 = .ok (.getfield 198, 3) := by decide +kernel
theorem dX7_partProperty_41 : decode cX7_partProperty 41 = .ok (.iload_n 3, 1) := by decide +kernel
theorem dX7_partProperty_42 : decode cX7_partProperty 42 = .ok (.aaload, 1) := by decide +kernel
theorem dX7_partProperty_43 : decode cX7_partProperty 43 = .ok (.invokevirtual 294, 3) := by decide +kernel
theorem dX7_partProperty_46 : decode cX7_partProperty 46 = .ok (.goto 16, 3) := by decide +kernel
theorem dX7_partProperty_49 : decode cX7_partProperty 49 = .ok (.aload_n 0, 1) := by decide +kernel
theorem dX7_partProperty_50 : decode cX7_partProperty 50 = .ok (.getfield 43, 3) := by decide +kernel
theorem dX7_partProperty_53 : decode cX7_partProperty 53 = .ok (.getfield 198, 3) := by decide +kernel
theorem dX7_partProperty_56 : decode cX7_partProperty 56 = .ok (.iload_n 3, 1) := by decide +kernel
theorem dX7_partProperty_57 : decode cX7_partProperty 57 = .ok (.aaload, 1) := by decide +kernel
theorem dX7_partProperty_58 : decode cX7_partProperty 58 = .ok (.iload_n 2, 1) := by decide +kernel
theorem dX7_partProperty_59 : decode cX7_partProperty 59 = .ok (.invokevirtual 297, 3) := by decide +kernel
theorem dX7_partProperty_62 : decode cX7_partProperty 62 = .ok (.ireturn, 1) := by decide +kernel
theorem dX7_sumOverParts_0 : decode cX7_sumOverParts 0 = .ok (.iconst 0, 1) := by decide +kernel
theorem dX7_sumOverParts_1 : decode cX7_sumOverParts 1 = .ok (.istore_n 2, 1) := by decide +kernel
theorem dX7_sumOverParts_2 : decode cX7_sumOverParts 2 = .ok (.iconst 0, 1) := by decide +kernel
theorem dX7_sumOverParts_3 : decode cX7_sumOverParts 3 = .ok (.istore_n 3, 1) := by decide +kernel
theorem dX7_sumOverParts_4 : decode cX7_sumOverParts 4 = .ok (.iload_n 3, 1) := by decide +kernel
theorem dX7_sumOverParts_5 : decode cX7_sumOverParts 5 = .ok (.aload_n 0, 1) := by decide +kernel
theorem dX7_sumOverParts_6 : decode cX7_sumOverParts 6 = .ok (.getfield 43, 3) := by decide +kernel
theorem dX7_sumOverParts_9 : decode cX7_sumOverParts 9 = .ok (.getfield 148, 3) := by decide +kernel
theorem dX7_sumOverParts_12 : decode cX7_sumOverParts 12 = .ok (.if_icmp .ge 18, 3) := by decide +kernel
theorem dX7_sumOverParts_15 : decode cX7_sumOverParts 15 = .ok (.iload_n 2, 1) := by decide +kernel
theorem dX7_sumOverParts_16 : decode cX7_sumOverParts 16 = .ok (.aload_n 0, 1) := by decide +kernel
theorem dX7_sumOverParts_17 : decode cX7_sumOverParts 17 = .ok (.iload_n 3, 1) := by decide +kernel
theorem dX7_sumOverParts_18 : decode cX7_sumOverParts 18 = .ok (.iload_n 1, 1) := by decide +kernel
theorem dX7_sumOverParts_19 : decode cX7_sumOverParts 19 = .ok (.invokevirtual 219, 3) := by decide +kernel
theorem dX7_sumOverParts_22 : decode cX7_sumOverParts 22 = .ok (.iadd, 1) := by decide +kernel
theorem dX7_sumOverParts_23 : decode cX7_sumOverParts 23 = .ok (.istore_n 2, 1) := by decide +kernel
theorem dX7_sumOverParts_24 : decode cX7_sumOverParts 24 = .ok (.iinc 3 1, 3) := by decide +kernel
theorem dX7_sumOverParts_27 : decode cX7_sumOverParts 27 = .ok (.goto (-23), 3) := by decide +kernel
theorem dX7_sumOverParts_30 : decode cX7_sumOverParts 30 = .ok (.iload_n 2, 1) := by decide +kernel
theorem dX7_sumOverParts_31 : decode cX7_sumOverParts 31 = .ok (.ireturn, 1) := by decide +kernel
theorem dX7_countFates_0 : decode cX7_countFates 0 = .ok (.iconst 0, 1) := by decide +kernel
theorem dX7_countFates_1 : decode cX7_countFates 1 = .ok (.istore_n 3, 1) := by decide +kernel
theorem dX7_countFates_2 : decode cX7_countFates 2 = .ok (.iconst 0, 1) := by decide +kernel
theorem dX7_countFates_3 : decode cX7_countFates 3 = .ok (.istore 4, 2) := by decide +kernel
theorem dX7_countFates_5 : decode cX7_countFates 5 = .ok (.iload 4, 2) := by decide +kernel
theorem dX7_countFates_7 : decode cX7_countFates 7 = .ok (.aload_n 0, 1) := by decide +kernel
theorem dX7_countFates_8 : decode cX7_countFates 8 = .ok (.getfield 43, 3) := by decide +kernel
theorem dX7_countFates_11 : decode cX7_countFates 11 = .ok (.getfield 148, 3) := by decide +kernel
theorem dX7_countFates_14 : decode cX7_countFates 14 = .ok (.if_icmp .ge 33, 3) := by decide +kernel
theorem dX7_countFates_17 : decode cX7_countFates 17 = .ok (.aload_n 0, 1) := by decide +kernel
theorem dX7_countFates_18 : decode cX7_countFates 18 = .ok (.iload 4, 2) := by decide +kernel
theorem dX7_countFates_20 : decode cX7_countFates 20 = .ok (.iconst 1, 1) := by decide +kernel
theorem dX7_countFates_21 : decode cX7_countFates 21 = .ok (.invokevirtual 219, 3) := by decide +kernel
theorem dX7_countFates_24 : decode cX7_countFates 24 = .ok (.istore 5, 2) := by decide +kernel
theorem dX7_countFates_26 : decode cX7_countFates 26 = .ok (.iload 5, 2) := by decide +kernel
theorem dX7_countFates_28 : decode cX7_countFates 28 = .ok (.iload_n 1, 1) := by decide +kernel
theorem dX7_countFates_29 : decode cX7_countFates 29 = .ok (.if_icmp .lt 12, 3) := by decide +kernel
theorem dX7_countFates_32 : decode cX7_countFates 32 = .ok (.iload 5, 2) := by decide +kernel
theorem dX7_countFates_34 : decode cX7_countFates 34 = .ok (.iload_n 2, 1) := by decide +kernel
theorem dX7_countFates_35 : decode cX7_countFates 35 = .ok (.if_icmp .gt 6, 3) := by decide +kernel
theorem dX7_countFates_38 : decode cX7_countFates 38 = .ok (.iinc 3 1, 3) := by decide +kernel
theorem dX7_countFates_41 : decode cX7_countFates 41 = .ok (.iinc 4 1, 3) := by decide +kernel
theorem dX7_countFates_44 : decode cX7_countFates 44 = .ok (.goto (-39), 3) := by decide +kernel
theorem dX7_countFates_47 : decode cX7_countFates 47 = .ok (.iload_n 3, 1) := by decide +kernel
theorem dX7_countFates_48 : decode cX7_countFates 48 = .ok (.ireturn, 1) := by decide +kernel
theorem dX7_startTrial_0 : decode cX7_startTrial 0 = .ok (.aload_n 0, 1) := by decide +kernel
theorem dX7_startTrial_1 : decode cX7_startTrial 1 = .ok (.getfield 47, 3) := by decide +kernel
theorem dX7_startTrial_4 : decode cX7_startTrial 4 = .ok (.aload_n 0, 1) := by decide +kernel
theorem dX7_startTrial_5 : decode cX7_startTrial 5 = .ok (.getfield 43, 3) := by decide +kernel
theorem dX7_startTrial_8 : decode cX7_startTrial 8 = .ok (.invokevirtual 213, 3) := by decide +kernel
theorem dX7_startTrial_11 : decode cX7_startTrial 11 = .ok (.aload_n 0, 1) := by decide +kernel
theorem dX7_startTrial_12 : decode cX7_startTrial 12 = .ok (.getfield 47, 3) := by decide +kernel
theorem dX7_startTrial_15 : decode cX7_startTrial 15 = .ok (.invokevirtual 179, 3) := by decide +kernel
theorem dX7_startTrial_18 : decode cX7_startTrial 18 = .ok (.return_, 1) := by decide +kernel
theorem dX8_init_0 : decode cX8_init 0 = .ok (.aload_n 0, 1) := by decide +kernel
theorem dX8_init_1 : decode cX8_init 1 = .ok (.invokespecial 1, 3) := by decide +kernel
theorem dX8_init_4 : decode cX8_init 4 = .ok (.aload_n 0, 1) := by decide +kernel
theorem dX8_init_5 : decode cX8_init 5 = .ok (.sipush 3200, 3) := by decide +kernel
theorem dX8_init_8 : decode cX8_init 8 = .ok (.newarray .int, 2) := by decide +kernel
theorem dX8_init_10 : decode cX8_init 10 = .ok (.putfield 7, 3) := by decide +kernel
theorem dX8_init_13 : decode cX8_init 13 = .ok (.aload_n 0, 1) := by decide +kernel
theorem dX8_init_14 : decode cX8_init 14 = .ok (.sipush 19200, 3) := by decide +kernel
theorem dX8_init_17 : decode cX8_init 17 = .ok (.newarray .int, 2) := by decide +kernel
theorem dX8_init_19 : decode cX8_init 19 = .ok (.putfield 13, 3) := by decide +kernel
theorem dX8_init_22 : decode cX8_init 22 = .ok (.aload_n 0, 1) := by decide +kernel
theorem dX8_init_23 : decode cX8_init 23 = .ok (.sipush 3200, 3) := by decide +kernel
theorem dX8_init_26 : decode cX8_init 26 = .ok (.newarray .int, 2) := by decide +kernel
theorem dX8_init_28 : decode cX8_init 28 = .ok (.putfield 16, 3) := by decide +kernel
theorem dX8_init_31 : decode cX8_init 31 = .ok (.aload_n 0, 1) := by decide +kernel
theorem dX8_init_32 : decode cX8_init 32 = .ok (.bipush 80, 2) := by decide +kernel
theorem dX8_init_34 : decode cX8_init 34 = .ok (.newarray .int, 2) := by decide +kernel
theorem dX8_init_36 : decode cX8_init 36 = .ok (.putfield 19, 3) := by decide +kernel
theorem dX8_init_39 : decode cX8_init 39 = .ok (.aload_n 0, 1) := by decide +kernel
theorem dX8_init_40 : decode cX8_init 40 = .ok (.bipush 8, 2) := by decide +kernel
theorem dX8_init_42 : decode cX8_init 42 = .ok (.newarray .int, 2) := by decide +kernel
theorem dX8_init_44 : decode cX8_init 44 = .ok (.putfield 22, 3) := by decide +kernel
theorem dX8_init_47 : decode cX8_init 47 = .ok (.aload_n 0, 1) := by decide +kernel
theorem dX8_init_48 : decode cX8_init 48 = .ok (.getfield 7, 3) := by decide +kernel
theorem dX8_init_51 : decode cX8_init 51 = .ok (.iconst 1, 1) := by decide +kernel
theorem dX8_init_52 : decode cX8_init 52 = .ok (.sipush 300, 3) := by decide +kernel
theorem dX8_init_55 : decode cX8_init 55 = .ok (.iastore, 1) := by decide +kernel
theorem dX8_init_56 : decode cX8_init 56 = .ok (.aload_n 0, 1) := by decide +kernel
theorem dX8_init_57 : decode cX8_init 57 = .ok (.getfield 7, 3) := by decide +kernel
theorem dX8_init_60 : decode cX8_init 60 = .ok (.iconst 2, 1) := by decide +kernel
theorem dX8_init_61 : decode cX8_init 61 = .ok (.bipush 20, 2) := by decide +kernel
theorem dX8_init_63 : decode cX8_init 63 = .ok (.iastore, 1) := by decide +kernel
theorem dX8_init_64 : decode cX8_init 64 = .ok (.aload_n 0, 1) := by decide +kernel
theorem dX8_init_65 : decode cX8_init 65 = .ok (.getfield 7, 3) := by decide +kernel
theorem dX8_init_68 : decode cX8_init 68 = .ok (.iconst 3, 1) := by decide +kernel
theorem dX8_init_69 : decode cX8_init 69 = .ok (.bipush 50, 2) := by decide +kernel
theorem dX8_init_71 : decode cX8_init 71 = .ok (.iastore, 1) := by decide +kernel
theorem dX8_init_72 : decode cX8_init 72 = .ok (.aload_n 0, 1) := by decide +kernel
theorem dX8_init_73 : decode cX8_init 73 = .ok (.getfield 7, 3) := by decide +kernel
theorem dX8_init_76 : decode cX8_init 76 = .ok (.iconst 4, 1) := by decide +kernel
theorem dX8_init_77 : decode cX8_init 77 = .ok (.bipush 40, 2) := by decide +kernel
theorem dX8_init_79 : decode cX8_init 79 = .ok (.iastore, 1) := by decide +kernel
theorem dX8_init_80 : decode cX8_init 80 = .ok (.aload_n 0, 1) := by decide +kernel
theorem dX8_init_81 : decode cX8_init 81 = .ok (.getfield 7, 3) := by decide +kernel
theorem dX8_init_84 : decode cX8_init 84 = .ok (.iconst 5, 1) := by decide +kernel
theorem dX8_init_85 : decode cX8_init 85 = .ok (.sipush 2000, 3) := by decide +kernel
theorem dX8_init_88 : decode cX8_init 88 = .ok (.iastore, 1) := by decide +kernel
theorem dX8_init_89 : decode cX8_init 89 = .ok (.aload_n 0, 1) := by decide +kernel
theorem dX8_init_90 : decode cX8_init 90 = .ok (.getfield 7, 3) := by decide +kernel
theorem dX8_init_93 : decode cX8_init 93 = .ok (.bipush 6, 2) := by decide +kernel
theorem dX8_init_95 : decode cX8_init 95 = .ok (.iconst 5, 1) := by decide +kernel
theorem dX8_init_96 : decode cX8_init 96 = .ok (.iastore, 1) := by decide +kernel
theorem dX8_init_97 : decode cX8_init 97 = .ok (.aload_n 0, 1) := by decide +kernel
theorem dX8_init_98 : decode cX8_init 98 = .ok (.getfield 7, 3) := by decide +kernel
theorem dX8_init_101 : decode cX8_init 101 = .ok (.bipush 106, 2) := by decide +kernel
theorem dX8_init_103 : decode cX8_init 103 = .ok (.bipush 120, 2) := by decide +kernel
theorem dX8_init_105 : decode cX8_init 105 = .ok (.iastore, 1) := by decide +kernel
theorem dX8_init_106 : decode cX8_init 106 = .ok (.aload_n 0, 1) := by decide +kernel
theorem dX8_init_107 : decode cX8_init 107 = .ok (.getfield 7, 3) := by decide +kernel
theorem dX8_init_110 : decode cX8_init 110 = .ok (.bipush 11, 2) := by decide +kernel
theorem dX8_init_112 : decode cX8_init 112 = .ok (.iconst 1, 1) := by decide +kernel
theorem dX8_init_113 : decode cX8_init 113 = .ok (.iastore, 1) := by decide +kernel
theorem dX8_init_114 : decode cX8_init 114 = .ok (.return_, 1) := by decide +kernel
theorem dX8_thrown_0 : decode cX8_thrown 0 = .ok (.aload_n 0, 1) := by decide +kernel
theorem dX8_thrown_1 : decode cX8_thrown 1 = .ok (.getfield 25, 3) := by decide +kernel
theorem dX8_thrown_4 : decode cX8_thrown 4 = .ok (.ireturn, 1) := by decide +kernel
theorem dX8_refuse_0 : decode cX8_refuse 0 = .ok (.aload_n 0, 1) := by decide +kernel
theorem dX8_refuse_1 : decode cX8_refuse 1 = .ok (.iload_n 1, 1) := by decide +kernel
theorem dX8_refuse_2 : decode cX8_refuse 2 = .ok (.putfield 25, 3) := by decide +kernel
theorem dX8_refuse_5 : decode cX8_refuse 5 = .ok (.iconst 0, 1) := by decide +kernel
theorem dX8_refuse_6 : decode cX8_refuse 6 = .ok (.ireturn, 1) := by decide +kernel
theorem dX8_in_0 : decode cX8_in 0 = .ok (.iload_n 0, 1) := by decide +kernel
theorem dX8_in_1 : decode cX8_in 1 = .ok (.iload_n 1, 1) := by decide +kernel
theorem dX8_in_2 : decode cX8_in 2 = .ok (.if_icmp .lt 12, 3) := by decide +kernel
theorem dX8_in_5 : decode cX8_in 5 = .ok (.iload_n 0, 1) := by decide +kernel
theorem dX8_in_6 : decode cX8_in 6 = .ok (.iload_n 2, 1) := by decide +kernel
theorem dX8_in_7 : decode cX8_in 7 = .ok (.if_icmp .gt 7, 3) := by decide +kernel
theorem dX8_in_10 : decode cX8_in 10 = .ok (.iconst 1, 1) := by decide +kernel
theorem dX8_in_11 : decode cX8_in 11 = .ok (.goto 4, 3) := by decide +kernel
theorem dX8_in_14 : decode cX8_in 14 = .ok (.iconst 0, 1) := by decide +kernel
theorem dX8_in_15 : decode cX8_in 15 = .ok (.ireturn, 1) := by decide +kernel
theorem dX8_one_0 : decode cX8_one 0 = .ok (.iload_n 0, 1) := by decide +kernel
theorem dX8_one_1 : decode cX8_one 1 = .ok (.ifCond .eq 7, 3) := by decide +kernel
theorem dX8_one_4 : decode cX8_one 4 = .ok (.iconst 1, 1) := by decide +kernel
theorem dX8_one_5 : decode cX8_one 5 = .ok (.goto 4, 3) := by decide +kernel
theorem dX8_one_8 : decode cX8_one 8 = .ok (.iconst 0, 1) := by decide +kernel
theorem dX8_one_9 : decode cX8_one 9 = .ok (.ireturn, 1) := by decide +kernel
theorem dX8_save_0 : decode cX8_save 0 = .ok (.aload_n 0, 1) := by decide +kernel
theorem dX8_save_1 : decode cX8_save 1 = .ok (.getfield 29, 3) := by decide +kernel
theorem dX8_save_4 : decode cX8_save 4 = .ok (.bipush 6, 2) := by decide +kernel
theorem dX8_save_6 : decode cX8_save 6 = .ok (.if_icmp .ne 44, 3) := by decide +kernel
theorem dX8_save_9 : decode cX8_save 9 = .ok (.iconst 0, 1) := by decide +kernel
theorem dX8_save_10 : decode cX8_save 10 = .ok (.istore_n 1, 1) := by decide +kernel
theorem dX8_save_11 : decode cX8_save 11 = .ok (.iload_n 1, 1) := by decide +kernel
theorem dX8_save_12 : decode cX8_save 12 = .ok (.sipush 16000, 3) := by decide +kernel
theorem dX8_save_15 : decode cX8_save 15 = .ok (.if_icmp .ge 25, 3) := by decide +kernel
theorem dX8_save_18 : decode cX8_save 18 = .ok (.aload_n 0, 1) := by decide +kernel
theorem dX8_save_19 : decode cX8_save 19 = .ok (.getfield 13, 3) := by decide +kernel
theorem dX8_save_22 : decode cX8_save 22 = .ok (.iload_n 1, 1) := by decide +kernel
theorem dX8_save_23 : decode cX8_save 23 = .ok (.aload_n 0, 1) := by decide +kernel
theorem dX8_save_24 : decode cX8_save 24 = .ok (.getfield 13, 3) := by decide +kernel
theorem dX8_save_27 : decode cX8_save 27 = .ok (.iload_n 1, 1) := by decide +kernel
theorem dX8_save_28 : decode cX8_save 28 = .ok (.sipush 3200, 3) := by decide +kernel
theorem dX8_save_31 : decode cX8_save 31 = .ok (.iadd, 1) := by decide +kernel
theorem dX8_save_32 : decode cX8_save 32 = .ok (.iaload, 1) := by decide +kernel
theorem dX8_save_33 : decode cX8_save 33 = .ok (.iastore, 1) := by decide +kernel
theorem dX8_save_34 : decode cX8_save 34 = .ok (.iinc 1 1, 3) := by decide +kernel
theorem dX8_save_37 : decode cX8_save 37 = .ok (.goto (-26), 3) := by decide +kernel
theorem dX8_save_40 : decode cX8_save 40 = .ok (.aload_n 0, 1) := by decide +kernel
theorem dX8_save_41 : decode cX8_save 41 = .ok (.dup, 1) := by decide +kernel
theorem dX8_save_42 : decode cX8_save 42 = .ok (.getfield 29, 3) := by decide +kernel
theorem dX8_save_45 : decode cX8_save 45 = .ok (.iconst 1, 1) := by decide +kernel
theorem dX8_save_46 : decode cX8_save 46 = .ok (.isub, 1) := by decide +kernel
theorem dX8_save_47 : decode cX8_save 47 = .ok (.putfield 29, 3) := by decide +kernel
theorem dX8_save_50 : decode cX8_save 50 = .ok (.iconst 0, 1) := by decide +kernel
theorem dX8_save_51 : decode cX8_save 51 = .ok (.istore_n 1, 1) := by decide +kernel
theorem dX8_save_52 : decode cX8_save 52 = .ok (.iload_n 1, 1) := by decide +kernel
theorem dX8_save_53 : decode cX8_save 53 = .ok (.sipush 3200, 3) := by decide +kernel
theorem dX8_save_56 : decode cX8_save 56 = .ok (.if_icmp .ge 30, 3) := by decide +kernel
theorem dX8_save_59 : decode cX8_save 59 = .ok (.aload_n 0, 1) := by decide +kernel
theorem dX8_save_60 : decode cX8_save 60 = .ok (.getfield 13, 3) := by decide +kernel
theorem dX8_save_63 : decode cX8_save 63 = .ok (.aload_n 0, 1) := by decide +kernel
theorem dX8_save_64 : decode cX8_save 64 = .ok (.getfield 29, 3) := by decide +kernel
theorem dX8_save_67 : decode cX8_save 67 = .ok (.sipush 3200, 3) := by decide +kernel
theorem dX8_save_70 : decode cX8_save 70 = .ok (.imul, 1) := by decide +kernel
theorem dX8_save_71 : decode cX8_save 71 = .ok (.iload_n 1, 1) := by decide +kernel
theorem dX8_save_72 : decode cX8_save 72 = .ok (.iadd, 1) := by decide +kernel
theorem dX8_save_73 : decode cX8_save 73 = .ok (.aload_n 0, 1) := by decide +kernel
theorem dX8_save_74 : decode cX8_save 74 = .ok (.getfield 7, 3) := by decide +kernel
theorem dX8_save_77 : decode cX8_save 77 = .ok (.iload_n 1, 1) := by decide +kernel
theorem dX8_save_78 : decode cX8_save 78 = .ok (.iaload, 1) := by decide +kernel
theorem dX8_save_79 : decode cX8_save 79 = .ok (.iastore, 1) := by decide +kernel
theorem dX8_save_80 : decode cX8_save 80 = .ok (.iinc 1 1, 3) := by decide +kernel
theorem dX8_save_83 : decode cX8_save 83 = .ok (.goto (-31), 3) := by decide +kernel
theorem dX8_save_86 : decode cX8_save 86 = .ok (.aload_n 0, 1) := by decide +kernel
theorem dX8_save_87 : decode cX8_save 87 = .ok (.dup, 1) := by decide +kernel
theorem dX8_save_88 : decode cX8_save 88 = .ok (.getfield 29, 3) := by decide +kernel
theorem dX8_save_91 : decode cX8_save 91 = .ok (.iconst 1, 1) := by decide +kernel
theorem dX8_save_92 : decode cX8_save 92 = .ok (.iadd, 1) := by decide +kernel
theorem dX8_save_93 : decode cX8_save 93 = .ok (.putfield 29, 3) := by decide +kernel
theorem dX8_save_96 : decode cX8_save 96 = .ok (.return_, 1) := by decide +kernel
theorem dX8_isOn_0 : decode cX8_isOn 0 = .ok (.aload_n 0, 1) := by decide +kernel
theorem dX8_isOn_1 : decode cX8_isOn 1 = .ok (.getfield 7, 3) := by decide +kernel
theorem dX8_isOn_4 : decode cX8_isOn 4 = .ok (.sipush 800, 3) := by decide +kernel
theorem dX8_isOn_7 : decode cX8_isOn 7 = .ok (.iload_n 1, 1) := by decide +kernel
theorem dX8_isOn_8 : decode cX8_isOn 8 = .ok (.iadd, 1) := by decide +kernel
theorem dX8_isOn_9 : decode cX8_isOn 9 = .ok (.iaload, 1) := by decide +kernel
theorem dX8_isOn_10 : decode cX8_isOn 10 = .ok (.ifCond .ne 7, 3) := by decide +kernel
theorem dX8_isOn_13 : decode cX8_isOn 13 = .ok (.iconst 1, 1) := by decide +kernel
theorem dX8_isOn_14 : decode cX8_isOn 14 = .ok (.goto 4, 3) := by decide +kernel
theorem dX8_isOn_17 : decode cX8_isOn 17 = .ok (.iconst 0, 1) := by decide +kernel
theorem dX8_isOn_18 : decode cX8_isOn 18 = .ok (.ireturn, 1) := by decide +kernel
theorem dX8_onBelt_0 : decode cX8_onBelt 0 = .ok (.iconst 0, 1) := by decide +kernel
theorem dX8_onBelt_1 : decode cX8_onBelt 1 = .ok (.istore_n 1, 1) := by decide +kernel
theorem dX8_onBelt_2 : decode cX8_onBelt 2 = .ok (.iconst 0, 1) := by decide +kernel
theorem dX8_onBelt_3 : decode cX8_onBelt 3 = .ok (.istore_n 2, 1) := by decide +kernel
theorem dX8_onBelt_4 : decode cX8_onBelt 4 = .ok (.iload_n 2, 1) := by decide +kernel
theorem dX8_onBelt_5 : decode cX8_onBelt 5 = .ok (.aload_n 0, 1) := by decide +kernel
theorem dX8_onBelt_6 : decode cX8_onBelt 6 = .ok (.getfield 7, 3) := by decide +kernel
theorem dX8_onBelt_9 : decode cX8_onBelt 9 = .ok (.bipush 9, 2) := by decide +kernel
theorem dX8_onBelt_11 : decode cX8_onBelt 11 = .ok (.iaload, 1) := by decide +kernel
theorem dX8_onBelt_12 : decode cX8_onBelt 12 = .ok (.if_icmp .ge 20, 3) := by decide +kernel
theorem dX8_onBelt_15 : decode cX8_onBelt 15 = .ok (.iload_n 1, 1) := by decide +kernel
theorem dX8_onBelt_16 : decode cX8_onBelt 16 = .ok (.aload_n 0, 1) := by decide +kernel
theorem dX8_onBelt_17 : decode cX8_onBelt 17 = .ok (.iload_n 2, 1) := by decide +kernel
theorem dX8_onBelt_18 : decode cX8_onBelt 18 = .ok (.invokevirtual 32, 3) := by decide +kernel
theorem dX8_onBelt_21 : decode cX8_onBelt 21 = .ok (.invokestatic 36, 3) := by decide +kernel
theorem dX8_onBelt_24 : decode cX8_onBelt 24 = .ok (.iadd, 1) := by decide +kernel
theorem dX8_onBelt_25 : decode cX8_onBelt 25 = .ok (.istore_n 1, 1) := by decide +kernel
theorem dX8_onBelt_26 : decode cX8_onBelt 26 = .ok (.iinc 2 1, 3) := by decide +kernel
theorem dX8_onBelt_29 : decode cX8_onBelt 29 = .ok (.goto (-25), 3) := by decide +kernel
theorem dX8_onBelt_32 : decode cX8_onBelt 32 = .ok (.iload_n 1, 1) := by decide +kernel
theorem dX8_onBelt_33 : decode cX8_onBelt 33 = .ok (.ireturn, 1) := by decide +kernel
theorem dX8_isLane_0 : decode cX8_isLane 0 = .ok (.iload_n 1, 1) := by decide +kernel
theorem dX8_isLane_1 : decode cX8_isLane 1 = .ok (.iconst 0, 1) := by decide +kernel
theorem dX8_isLane_2 : decode cX8_isLane 2 = .ok (.aload_n 0, 1) := by decide +kernel
theorem dX8_isLane_3 : decode cX8_isLane 3 = .ok (.getfield 7, 3) := by decide +kernel
theorem dX8_isLane_6 : decode cX8_isLane 6 = .ok (.bipush 7, 2) := by decide +kernel
theorem dX8_isLane_8 : decode cX8_isLane 8 = .ok (.iaload, 1) := by decide +kernel
theorem dX8_isLane_9 : decode cX8_isLane 9 = .ok (.iconst 1, 1) := by decide +kernel
theorem dX8_isLane_10 : decode cX8_isLane 10 = .ok (.isub, 1) := by decide +kernel
theorem dX8_isLane_11 : decode cX8_isLane 11 = .ok (.invokestatic 40, 3) := by decide +kernel
theorem dX8_isLane_14 : decode cX8_isLane 14 = .ok (.ireturn, 1) := by decide +kernel
theorem dX8_isPart_0 : decode cX8_isPart 0 = .ok (.iload_n 1, 1) := by decide +kernel
theorem dX8_isPart_1 : decode cX8_isPart 1 = .ok (.iconst 0, 1) := by decide +kernel
theorem dX8_isPart_2 : decode cX8_isPart 2 = .ok (.aload_n 0, 1) := by decide +kernel
theorem dX8_isPart_3 : decode cX8_isPart 3 = .ok (.getfield 7, 3) := by decide +kernel
theorem dX8_isPart_6 : decode cX8_isPart 6 = .ok (.bipush 9, 2) := by decide +kernel
theorem dX8_isPart_8 : decode cX8_isPart 8 = .ok (.iaload, 1) := by decide +kernel
theorem dX8_isPart_9 : decode cX8_isPart 9 = .ok (.iconst 1, 1) := by decide +kernel
theorem dX8_isPart_10 : decode cX8_isPart 10 = .ok (.isub, 1) := by decide +kernel
theorem dX8_isPart_11 : decode cX8_isPart 11 = .ok (.invokestatic 40, 3) := by decide +kernel
theorem dX8_isPart_14 : decode cX8_isPart 14 = .ok (.ireturn, 1) := by decide +kernel
theorem dX8_isCode_0 : decode cX8_isCode 0 = .ok (.iload_n 0, 1) := by decide +kernel
theorem dX8_isCode_1 : decode cX8_isCode 1 = .ok (.iconst 0, 1) := by decide +kernel
theorem dX8_isCode_2 : decode cX8_isCode 2 = .ok (.sipush 999, 3) := by decide +kernel
theorem dX8_isCode_5 : decode cX8_isCode 5 = .ok (.invokestatic 40, 3) := by decide +kernel
theorem dX8_isCode_8 : decode cX8_isCode 8 = .ok (.ireturn, 1) := by decide +kernel
theorem dX8_least_0 : decode cX8_least 0 = .ok (.iload_n 0, 1) := by decide +kernel
theorem dX8_least_1 : decode cX8_least 1 = .ok (.ifCond .ne 8, 3) := by decide +kernel
theorem dX8_least_4 : decode cX8_least 4 = .ok (.bipush 50, 2) := by decide +kernel
theorem dX8_least_6 : decode cX8_least 6 = .ok (.goto 15, 3) := by decide +kernel
theorem dX8_least_9 : decode cX8_least 9 = .ok (.iload_n 0, 1) := by decide +kernel
theorem dX8_least_10 : decode cX8_least 10 = .ok (.iconst 4, 1) := by decide +kernel
theorem dX8_least_11 : decode cX8_least 11 = .ok (.if_icmp .ne 9, 3) := by decide +kernel
theorem dX8_least_14 : decode cX8_least 14 = .ok (.sipush 1000, 3) := by decide +kernel
theorem dX8_least_17 : decode cX8_least 17 = .ok (.goto 4, 3) := by decide +kernel
theorem dX8_least_20 : decode cX8_least 20 = .ok (.iconst 0, 1) := by decide +kernel
theorem dX8_least_21 : decode cX8_least 21 = .ok (.ireturn, 1) := by decide +kernel
theorem dX8_most_0 : decode cX8_most 0 = .ok (.iload_n 0, 1) := by decide +kernel
theorem dX8_most_1 : decode cX8_most 1 = .ok (.tableswitch 54 0 5 #[39, 43, 54, 54, 47, 51], 39) := by decide +kernel
theorem dX8_most_40 : decode cX8_most 40 = .ok (.sipush 1000, 3) := by decide +kernel
theorem dX8_most_43 : decode cX8_most 43 = .ok (.ireturn, 1) := by decide +kernel
theorem dX8_most_44 : decode cX8_most 44 = .ok (.sipush 200, 3) := by decide +kernel
theorem dX8_most_47 : decode cX8_most 47 = .ok (.ireturn, 1) := by decide +kernel
theorem dX8_most_48 : decode cX8_most 48 = .ok (.sipush 5000, 3) := by decide +kernel
theorem dX8_most_51 : decode cX8_most 51 = .ok (.ireturn, 1) := by decide +kernel
theorem dX8_most_52 : decode cX8_most 52 = .ok (.bipush 100, 2) := by decide +kernel
theorem dX8_most_54 : decode cX8_most 54 = .ok (.ireturn, 1) := by decide +kernel
theorem dX8_most_55 : decode cX8_most 55 = .ok (.sipush 500, 3) := by decide +kernel
theorem dX8_most_58 : decode cX8_most 58 = .ok (.ireturn, 1) := by decide +kernel
theorem dX8_set_0 : decode cX8_set 0 = .ok (.aload_n 0, 1) := by decide +kernel
theorem dX8_set_1 : decode cX8_set 1 = .ok (.iconst 0, 1) := by decide +kernel
theorem dX8_set_2 : decode cX8_set 2 = .ok (.putfield 25, 3) := by decide +kernel
theorem dX8_set_5 : decode cX8_set 5 = .ok (.iload_n 1, 1) := by decide +kernel
theorem dX8_set_6 : decode cX8_set 6 = .ok (.iconst 0, 1) := by decide +kernel
theorem dX8_set_7 : decode cX8_set 7 = .ok (.iconst 5, 1) := by decide +kernel
theorem dX8_set_8 : decode cX8_set 8 = .ok (.invokestatic 40, 3) := by decide +kernel
theorem dX8_set_11 : decode cX8_set 11 = .ok (.ifCond .ne 9, 3) := by decide +kernel
theorem dX8_set_14 : decode cX8_set 14 = .ok (.aload_n 0, 1) := by decide +kernel
theorem dX8_set_15 : decode cX8_set 15 = .ok (.iconst 1, 1) := by decide +kernel
theorem dX8_set_16 : decode cX8_set 16 = .ok (.invokevirtual 44, 3) := by decide +kernel
theorem dX8_set_19 : decode cX8_set 19 = .ok (.ireturn, 1) := by decide +kernel
theorem dX8_set_20 : decode cX8_set 20 = .ok (.iload_n 2, 1) := by decide +kernel
theorem dX8_set_21 : decode cX8_set 21 = .ok (.iload_n 1, 1) := by decide +kernel
theorem dX8_set_22 : decode cX8_set 22 = .ok (.invokestatic 48, 3) := by decide +kernel
theorem dX8_set_25 : decode cX8_set 25 = .ok (.iload_n 1, 1) := by decide +kernel
theorem dX8_set_26 : decode cX8_set 26 = .ok (.invokestatic 51, 3) := by decide +kernel
theorem dX8_set_29 : decode cX8_set 29 = .ok (.invokestatic 40, 3) := by decide +kernel
theorem dX8_set_32 : decode cX8_set 32 = .ok (.ifCond .ne 9, 3) := by decide +kernel
theorem dX8_set_35 : decode cX8_set 35 = .ok (.aload_n 0, 1) := by decide +kernel
theorem dX8_set_36 : decode cX8_set 36 = .ok (.iconst 2, 1) := by decide +kernel
theorem dX8_set_37 : decode cX8_set 37 = .ok (.invokevirtual 44, 3) := by decide +kernel
theorem dX8_set_40 : decode cX8_set 40 = .ok (.ireturn, 1) := by decide +kernel
theorem dX8_set_41 : decode cX8_set 41 = .ok (.aload_n 0, 1) := by decide +kernel
theorem dX8_set_42 : decode cX8_set 42 = .ok (.invokevirtual 54, 3) := by decide +kernel
theorem dX8_set_45 : decode cX8_set 45 = .ok (.ifCond .le 9, 3) := by decide +kernel
theorem dX8_set_48 : decode cX8_set 48 = .ok (.aload_n 0, 1) := by decide +kernel
theorem dX8_set_49 : decode cX8_set 49 = .ok (.iconst 3, 1) := by decide +kernel
theorem dX8_set_50 : decode cX8_set 50 = .ok (.invokevirtual 44, 3) := by decide +kernel
theorem dX8_set_53 : decode cX8_set 53 = .ok (.ireturn, 1) := by decide +kernel
theorem dX8_set_54 : decode cX8_set 54 = .ok (.aload_n 0, 1) := by decide +kernel
theorem dX8_set_55 : decode cX8_set 55 = .ok (.invokevirtual 58, 3) := by decide +kernel
theorem dX8_set_58 : decode cX8_set 58 = .ok (.aload_n 0, 1) := by decide +kernel
theorem dX8_set_59 : decode cX8_set 59 = .ok (.getfield 7, 3) := by decide +kernel
theorem dX8_set_62 : decode cX8_set 62 = .ok (.iconst 1, 1) := by decide +kernel
theorem dX8_set_63 : decode cX8_set 63 = .ok (.iload_n 1, 1) := by decide +kernel
theorem dX8_set_64 : decode cX8_set 64 = .ok (.iadd, 1) := by decide +kernel
theorem dX8_set_65 : decode cX8_set 65 = .ok (.iaload, 1) := by decide +kernel
theorem dX8_set_66 : decode cX8_set 66 = .ok (.istore_n 3, 1) := by decide +kernel
theorem dX8_set_67 : decode cX8_set 67 = .ok (.aload_n 0, 1) := by decide +kernel
theorem dX8_set_68 : decode cX8_set 68 = .ok (.getfield 7, 3) := by decide +kernel
theorem dX8_set_71 : decode cX8_set 71 = .ok (.iconst 1, 1) := by decide +kernel
theorem dX8_set_72 : decode cX8_set 72 = .ok (.iload_n 1, 1) := by decide +kernel
theorem dX8_set_73 : decode cX8_set 73 = .ok (.iadd, 1) := by decide +kernel
theorem dX8_set_74 : decode cX8_set 74 = .ok (.iload_n 2, 1) := by decide +kernel
theorem dX8_set_75 : decode cX8_set 75 = .ok (.iastore, 1) := by decide +kernel
theorem dX8_set_76 : decode cX8_set 76 = .ok (.iload_n 3, 1) := by decide +kernel
theorem dX8_set_77 : decode cX8_set 77 = .ok (.ireturn, 1) := by decide +kernel
theorem dX8_addLane_0 : decode cX8_addLane 0 = .ok (.aload_n 0, 1) := by decide +kernel
theorem dX8_addLane_1 : decode cX8_addLane 1 = .ok (.iconst 0, 1) := by decide +kernel
theorem dX8_addLane_2 : decode cX8_addLane 2 = .ok (.putfield 25, 3) := by decide +kernel
theorem dX8_addLane_5 : decode cX8_addLane 5 = .ok (.iload_n 1, 1) := by decide +kernel
theorem dX8_addLane_6 : decode cX8_addLane 6 = .ok (.iconst 1, 1) := by decide +kernel
theorem dX8_addLane_7 : decode cX8_addLane 7 = .ok (.sipush 4999, 3) := by decide +kernel
theorem dX8_addLane_10 : decode cX8_addLane 10 = .ok (.invokestatic 40, 3) := by decide +kernel
theorem dX8_addLane_13 : decode cX8_addLane 13 = .ok (.ifCond .eq 24, 3) := by decide +kernel
theorem dX8_addLane_16 : decode cX8_addLane 16 = .ok (.iload_n 2, 1) := by decide +kernel
theorem dX8_addLane_17 : decode cX8_addLane 17 = .ok (.iconst 1, 1) := by decide +kernel
theorem dX8_addLane_18 : decode cX8_addLane 18 = .ok (.sipush 200, 3) := by decide +kernel
theorem dX8_addLane_21 : decode cX8_addLane 21 = .ok (.invokestatic 40, 3) := by decide +kernel
theorem dX8_addLane_24 : decode cX8_addLane 24 = .ok (.ifCond .eq 13, 3) := by decide +kernel
theorem dX8_addLane_27 : decode cX8_addLane 27 = .ok (.iload_n 3, 1) := by decide +kernel
theorem dX8_addLane_28 : decode cX8_addLane 28 = .ok (.iconst 1, 1) := by decide +kernel
theorem dX8_addLane_29 : decode cX8_addLane 29 = .ok (.bipush 50, 2) := by decide +kernel
theorem dX8_addLane_31 : decode cX8_addLane 31 = .ok (.invokestatic 40, 3) := by decide +kernel
theorem dX8_addLane_34 : decode cX8_addLane 34 = .ok (.ifCond .ne 9, 3) := by decide +kernel
theorem dX8_addLane_37 : decode cX8_addLane 37 = .ok (.aload_n 0, 1) := by decide +kernel
theorem dX8_addLane_38 : decode cX8_addLane 38 = .ok (.iconst 1, 1) := by decide +kernel
theorem dX8_addLane_39 : decode cX8_addLane 39 = .ok (.invokevirtual 44, 3) := by decide +kernel
theorem dX8_addLane_42 : decode cX8_addLane 42 = .ok (.ireturn, 1) := by decide +kernel
theorem dX8_addLane_43 : decode cX8_addLane 43 = .ok (.aload_n 0, 1) := by decide +kernel
theorem dX8_addLane_44 : decode cX8_addLane 44 = .ok (.getfield 7, 3) := by decide +kernel
theorem dX8_addLane_47 : decode cX8_addLane 47 = .ok (.bipush 7, 2) := by decide +kernel
theorem dX8_addLane_49 : decode cX8_addLane 49 = .ok (.iaload, 1) := by decide +kernel
theorem dX8_addLane_50 : decode cX8_addLane 50 = .ok (.bipush 6, 2) := by decide +kernel
theorem dX8_addLane_52 : decode cX8_addLane 52 = .ok (.if_icmp .ne 9, 3) := by decide +kernel
theorem dX8_addLane_55 : decode cX8_addLane 55 = .ok (.aload_n 0, 1) := by decide +kernel
theorem dX8_addLane_56 : decode cX8_addLane 56 = .ok (.iconst 2, 1) := by decide +kernel
theorem dX8_addLane_57 : decode cX8_addLane 57 = .ok (.invokevirtual 44, 3) := by decide +kernel
theorem dX8_addLane_60 : decode cX8_addLane 60 = .ok (.ireturn, 1) := by decide +kernel
theorem dX8_addLane_61 : decode cX8_addLane 61 = .ok (.aload_n 0, 1) := by decide +kernel
theorem dX8_addLane_62 : decode cX8_addLane 62 = .ok (.invokevirtual 58, 3) := by decide +kernel
theorem dX8_addLane_65 : decode cX8_addLane 65 = .ok (.aload_n 0, 1) := by decide +kernel
theorem dX8_addLane_66 : decode cX8_addLane 66 = .ok (.getfield 7, 3) := by decide +kernel
theorem dX8_addLane_69 : decode cX8_addLane 69 = .ok (.bipush 7, 2) := by decide +kernel
theorem dX8_addLane_71 : decode cX8_addLane 71 = .ok (.iaload, 1) := by decide +kernel
theorem dX8_addLane_72 : decode cX8_addLane 72 = .ok (.istore 4, 2) := by decide +kernel
theorem dX8_addLane_74 : decode cX8_addLane 74 = .ok (.aload_n 0, 1) := by decide +kernel
theorem dX8_addLane_75 : decode cX8_addLane 75 = .ok (.getfield 7, 3) := by decide +kernel
theorem dX8_addLane_78 : decode cX8_addLane 78 = .ok (.bipush 16, 2) := by decide +kernel
theorem dX8_addLane_80 : decode cX8_addLane 80 = .ok (.iload 4, 2) := by decide +kernel
theorem dX8_addLane_82 : decode cX8_addLane 82 = .ok (.iadd, 1) := by decide +kernel
theorem dX8_addLane_83 : decode cX8_addLane 83 = .ok (.iload_n 1, 1) := by decide +kernel
theorem dX8_addLane_84 : decode cX8_addLane 84 = .ok (.iastore, 1) := by decide +kernel
theorem dX8_addLane_85 : decode cX8_addLane 85 = .ok (.aload_n 0, 1) := by decide +kernel
theorem dX8_addLane_86 : decode cX8_addLane 86 = .ok (.getfield 7, 3) := by decide +kernel
theorem dX8_addLane_89 : decode cX8_addLane 89 = .ok (.bipush 22, 2) := by decide +kernel
theorem dX8_addLane_91 : decode cX8_addLane 91 = .ok (.iload 4, 2) := by decide +kernel
theorem dX8_addLane_93 : decode cX8_addLane 93 = .ok (.iadd, 1) := by decide +kernel
theorem dX8_addLane_94 : decode cX8_addLane 94 = .ok (.iload_n 2, 1) := by decide +kernel
theorem dX8_addLane_95 : decode cX8_addLane 95 = .ok (.iastore, 1) := by decide +kernel
theorem dX8_addLane_96 : decode cX8_addLane 96 = .ok (.aload_n 0, 1) := by decide +kernel
theorem dX8_addLane_97 : decode cX8_addLane 97 = .ok (.getfield 7, 3) := by decide +kernel
theorem dX8_addLane_100 : decode cX8_addLane 100 = .ok (.bipush 28, 2) := by decide +kernel
theorem dX8_addLane_102 : decode cX8_addLane 102 = .ok (.iload 4, 2) := by decide +kernel
theorem dX8_addLane_104 : decode cX8_addLane 104 = .ok (.iadd, 1) := by decide +kernel
theorem dX8_addLane_105 : decode cX8_addLane 105 = .ok (.iload_n 3, 1) := by decide +kernel
theorem dX8_addLane_106 : decode cX8_addLane 106 = .ok (.iastore, 1) := by decide +kernel
theorem dX8_addLane_107 : decode cX8_addLane 107 = .ok (.aload_n 0, 1) := by decide +kernel
theorem dX8_addLane_108 : decode cX8_addLane 108 = .ok (.getfield 7, 3) := by decide +kernel
theorem dX8_addLane_111 : decode cX8_addLane 111 = .ok (.bipush 7, 2) := by decide +kernel
theorem dX8_addLane_113 : decode cX8_addLane 113 = .ok (.dup2, 1) := by decide +kernel
theorem dX8_addLane_114 : decode cX8_addLane 114 = .ok (.iaload, 1) := by decide +kernel
theorem dX8_addLane_115 : decode cX8_addLane 115 = .ok (.iconst 1, 1) := by decide +kernel
theorem dX8_addLane_116 : decode cX8_addLane 116 = .ok (.iadd, 1) := by decide +kernel
theorem dX8_addLane_117 : decode cX8_addLane 117 = .ok (.iastore, 1) := by decide +kernel
theorem dX8_addLane_118 : decode cX8_addLane 118 = .ok (.iload 4, 2) := by decide +kernel
theorem dX8_addLane_120 : decode cX8_addLane 120 = .ok (.ireturn, 1) := by decide +kernel
theorem dX8_emptyLane_0 : decode cX8_emptyLane 0 = .ok (.aload_n 0, 1) := by decide +kernel
theorem dX8_emptyLane_1 : decode cX8_emptyLane 1 = .ok (.iconst 0, 1) := by decide +kernel
theorem dX8_emptyLane_2 : decode cX8_emptyLane 2 = .ok (.putfield 25, 3) := by decide +kernel
theorem dX8_emptyLane_5 : decode cX8_emptyLane 5 = .ok (.aload_n 0, 1) := by decide +kernel
theorem dX8_emptyLane_6 : decode cX8_emptyLane 6 = .ok (.iload_n 1, 1) := by decide +kernel
theorem dX8_emptyLane_7 : decode cX8_emptyLane 7 = .ok (.invokevirtual 61, 3) := by decide +kernel
theorem dX8_emptyLane_10 : decode cX8_emptyLane 10 = .ok (.ifCond .ne 9, 3) := by decide +kernel
theorem dX8_emptyLane_13 : decode cX8_emptyLane 13 = .ok (.aload_n 0, 1) := by decide +kernel
theorem dX8_emptyLane_14 : decode cX8_emptyLane 14 = .ok (.iconst 1, 1) := by decide +kernel
theorem dX8_emptyLane_15 : decode cX8_emptyLane 15 = .ok (.invokevirtual 44, 3) := by decide +kernel
theorem dX8_emptyLane_18 : decode cX8_emptyLane 18 = .ok (.ireturn, 1) := by decide +kernel
theorem dX8_emptyLane_19 : decode cX8_emptyLane 19 = .ok (.aload_n 0, 1) := by decide +kernel
theorem dX8_emptyLane_20 : decode cX8_emptyLane 20 = .ok (.invokevirtual 58, 3) := by decide +kernel
theorem dX8_emptyLane_23 : decode cX8_emptyLane 23 = .ok (.aload_n 0, 1) := by decide +kernel
theorem dX8_emptyLane_24 : decode cX8_emptyLane 24 = .ok (.getfield 7, 3) := by decide +kernel
theorem dX8_emptyLane_27 : decode cX8_emptyLane 27 = .ok (.bipush 34, 2) := by decide +kernel
theorem dX8_emptyLane_29 : decode cX8_emptyLane 29 = .ok (.iload_n 1, 1) := by decide +kernel
theorem dX8_emptyLane_30 : decode cX8_emptyLane 30 = .ok (.iadd, 1) := by decide +kernel
theorem dX8_emptyLane_31 : decode cX8_emptyLane 31 = .ok (.iaload, 1) := by decide +kernel
theorem dX8_emptyLane_32 : decode cX8_emptyLane 32 = .ok (.istore_n 2, 1) := by decide +kernel
theorem dX8_emptyLane_33 : decode cX8_emptyLane 33 = .ok (.aload_n 0, 1) := by decide +kernel
theorem dX8_emptyLane_34 : decode cX8_emptyLane 34 = .ok (.getfield 7, 3) := by decide +kernel
theorem dX8_emptyLane_37 : decode cX8_emptyLane 37 = .ok (.bipush 34, 2) := by decide +kernel
theorem dX8_emptyLane_39 : decode cX8_emptyLane 39 = .ok (.iload_n 1, 1) := by decide +kernel
theorem dX8_emptyLane_40 : decode cX8_emptyLane 40 = .ok (.iadd, 1) := by decide +kernel
theorem dX8_emptyLane_41 : decode cX8_emptyLane 41 = .ok (.iconst 0, 1) := by decide +kernel
theorem dX8_emptyLane_42 : decode cX8_emptyLane 42 = .ok (.iastore, 1) := by decide +kernel
theorem dX8_emptyLane_43 : decode cX8_emptyLane 43 = .ok (.iload_n 2, 1) := by decide +kernel
theorem dX8_emptyLane_44 : decode cX8_emptyLane 44 = .ok (.ireturn, 1) := by decide +kernel
theorem dX8_placeOf_0 : decode cX8_placeOf 0 = .ok (.iconst 0, 1) := by decide +kernel
theorem dX8_placeOf_1 : decode cX8_placeOf 1 = .ok (.istore_n 2, 1) := by decide +kernel
theorem dX8_placeOf_2 : decode cX8_placeOf 2 = .ok (.iload_n 2, 1) := by decide +kernel
theorem dX8_placeOf_3 : decode cX8_placeOf 3 = .ok (.aload_n 0, 1) := by decide +kernel
theorem dX8_placeOf_4 : decode cX8_placeOf 4 = .ok (.getfield 7, 3) := by decide +kernel
theorem dX8_placeOf_7 : decode cX8_placeOf 7 = .ok (.bipush 8, 2) := by decide +kernel
theorem dX8_placeOf_9 : decode cX8_placeOf 9 = .ok (.iaload, 1) := by decide +kernel
theorem dX8_placeOf_10 : decode cX8_placeOf 10 = .ok (.if_icmp .ge 22, 3) := by decide +kernel
theorem dX8_placeOf_13 : decode cX8_placeOf 13 = .ok (.aload_n 0, 1) := by decide +kernel
theorem dX8_placeOf_14 : decode cX8_placeOf 14 = .ok (.getfield 7, 3) := by decide +kernel
theorem dX8_placeOf_17 : decode cX8_placeOf 17 = .ok (.bipush 46, 2) := by decide +kernel
theorem dX8_placeOf_19 : decode cX8_placeOf 19 = .ok (.iload_n 2, 1) := by decide +kernel
theorem dX8_placeOf_20 : decode cX8_placeOf 20 = .ok (.iadd, 1) := by decide +kernel
theorem dX8_placeOf_21 : decode cX8_placeOf 21 = .ok (.iaload, 1) := by decide +kernel
theorem dX8_placeOf_22 : decode cX8_placeOf 22 = .ok (.iload_n 1, 1) := by decide +kernel
theorem dX8_placeOf_23 : decode cX8_placeOf 23 = .ok (.if_icmp .ge 9, 3) := by decide +kernel
theorem dX8_placeOf_26 : decode cX8_placeOf 26 = .ok (.iinc 2 1, 3) := by decide +kernel
theorem dX8_placeOf_29 : decode cX8_placeOf 29 = .ok (.goto (-27), 3) := by decide +kernel
theorem dX8_placeOf_32 : decode cX8_placeOf 32 = .ok (.iload_n 2, 1) := by decide +kernel
theorem dX8_placeOf_33 : decode cX8_placeOf 33 = .ok (.ireturn, 1) := by decide +kernel
theorem dX8_hasRoute_0 : decode cX8_hasRoute 0 = .ok (.aload_n 0, 1) := by decide +kernel
theorem dX8_hasRoute_1 : decode cX8_hasRoute 1 = .ok (.iload_n 1, 1) := by decide +kernel
theorem dX8_hasRoute_2 : decode cX8_hasRoute 2 = .ok (.invokevirtual 64, 3) := by decide +kernel
theorem dX8_hasRoute_5 : decode cX8_hasRoute 5 = .ok (.istore_n 2, 1) := by decide +kernel
theorem dX8_hasRoute_6 : decode cX8_hasRoute 6 = .ok (.iload_n 2, 1) := by decide +kernel
theorem dX8_hasRoute_7 : decode cX8_hasRoute 7 = .ok (.aload_n 0, 1) := by decide +kernel
theorem dX8_hasRoute_8 : decode cX8_hasRoute 8 = .ok (.getfield 7, 3) := by decide +kernel
theorem dX8_hasRoute_11 : decode cX8_hasRoute 11 = .ok (.bipush 8, 2) := by decide +kernel
theorem dX8_hasRoute_13 : decode cX8_hasRoute 13 = .ok (.iaload, 1) := by decide +kernel
theorem dX8_hasRoute_14 : decode cX8_hasRoute 14 = .ok (.if_icmp .ge 20, 3) := by decide +kernel
theorem dX8_hasRoute_17 : decode cX8_hasRoute 17 = .ok (.aload_n 0, 1) := by decide +kernel
theorem dX8_hasRoute_18 : decode cX8_hasRoute 18 = .ok (.getfield 7, 3) := by decide +kernel
theorem dX8_hasRoute_21 : decode cX8_hasRoute 21 = .ok (.bipush 46, 2) := by decide +kernel
theorem dX8_hasRoute_23 : decode cX8_hasRoute 23 = .ok (.iload_n 2, 1) := by decide +kernel
theorem dX8_hasRoute_24 : decode cX8_hasRoute 24 = .ok (.iadd, 1) := by decide +kernel
theorem dX8_hasRoute_25 : decode cX8_hasRoute 25 = .ok (.iaload, 1) := by decide +kernel
theorem dX8_hasRoute_26 : decode cX8_hasRoute 26 = .ok (.iload_n 1, 1) := by decide +kernel
theorem dX8_hasRoute_27 : decode cX8_hasRoute 27 = .ok (.if_icmp .ne 7, 3) := by decide +kernel
theorem dX8_hasRoute_30 : decode cX8_hasRoute 30 = .ok (.iconst 1, 1) := by decide +kernel
theorem dX8_hasRoute_31 : decode cX8_hasRoute 31 = .ok (.goto 4, 3) := by decide +kernel
theorem dX8_hasRoute_34 : decode cX8_hasRoute 34 = .ok (.iconst 0, 1) := by decide +kernel
theorem dX8_hasRoute_35 : decode cX8_hasRoute 35 = .ok (.ireturn, 1) := by decide +kernel
theorem dX8_route_0 : decode cX8_route 0 = .ok (.aload_n 0, 1) := by decide +kernel
theorem dX8_route_1 : decode cX8_route 1 = .ok (.iconst 0, 1) := by decide +kernel
theorem dX8_route_2 : decode cX8_route 2 = .ok (.putfield 25, 3) := by decide +kernel
theorem dX8_route_5 : decode cX8_route 5 = .ok (.iload_n 1, 1) := by decide +kernel
theorem dX8_route_6 : decode cX8_route 6 = .ok (.invokestatic 67, 3) := by decide +kernel
theorem dX8_route_9 : decode cX8_route 9 = .ok (.ifCond .ne 9, 3) := by decide +kernel
theorem dX8_route_12 : decode cX8_route 12 = .ok (.aload_n 0, 1) := by decide +kernel
theorem dX8_route_13 : decode cX8_route 13 = .ok (.iconst 1, 1) := by decide +kernel
theorem dX8_route_14 : decode cX8_route 14 = .ok (.invokevirtual 44, 3) := by decide +kernel
theorem dX8_route_17 : decode cX8_route 17 = .ok (.ireturn, 1) := by decide +kernel
theorem dX8_route_18 : decode cX8_route 18 = .ok (.aload_n 0, 1) := by decide +kernel
theorem dX8_route_19 : decode cX8_route 19 = .ok (.iload_n 2, 1) := by decide +kernel
theorem dX8_route_20 : decode cX8_route 20 = .ok (.invokevirtual 61, 3) := by decide +kernel
theorem dX8_route_23 : decode cX8_route 23 = .ok (.ifCond .ne 9, 3) := by decide +kernel
theorem dX8_route_26 : decode cX8_route 26 = .ok (.aload_n 0, 1) := by decide +kernel
theorem dX8_route_27 : decode cX8_route 27 = .ok (.iconst 2, 1) := by decide +kernel
theorem dX8_route_28 : decode cX8_route 28 = .ok (.invokevirtual 44, 3) := by decide +kernel
theorem dX8_route_31 : decode cX8_route 31 = .ok (.ireturn, 1) := by decide +kernel
theorem dX8_route_32 : decode cX8_route 32 = .ok (.aload_n 0, 1) := by decide +kernel
theorem dX8_route_33 : decode cX8_route 33 = .ok (.iload_n 1, 1) := by decide +kernel
theorem dX8_route_34 : decode cX8_route 34 = .ok (.invokevirtual 70, 3) := by decide +kernel
theorem dX8_route_37 : decode cX8_route 37 = .ok (.istore_n 3, 1) := by decide +kernel
theorem dX8_route_38 : decode cX8_route 38 = .ok (.iload_n 3, 1) := by decide +kernel
theorem dX8_route_39 : decode cX8_route 39 = .ok (.ifCond .ne 21, 3) := by decide +kernel
theorem dX8_route_42 : decode cX8_route 42 = .ok (.aload_n 0, 1) := by decide +kernel
theorem dX8_route_43 : decode cX8_route 43 = .ok (.getfield 7, 3) := by decide +kernel
theorem dX8_route_46 : decode cX8_route 46 = .ok (.bipush 8, 2) := by decide +kernel
theorem dX8_route_48 : decode cX8_route 48 = .ok (.iaload, 1) := by decide +kernel
theorem dX8_route_49 : decode cX8_route 49 = .ok (.bipush 30, 2) := by decide +kernel
theorem dX8_route_51 : decode cX8_route 51 = .ok (.if_icmp .ne 9, 3) := by decide +kernel
theorem dX8_route_54 : decode cX8_route 54 = .ok (.aload_n 0, 1) := by decide +kernel
theorem dX8_route_55 : decode cX8_route 55 = .ok (.iconst 3, 1) := by decide +kernel
theorem dX8_route_56 : decode cX8_route 56 = .ok (.invokevirtual 44, 3) := by decide +kernel
theorem dX8_route_59 : decode cX8_route 59 = .ok (.ireturn, 1) := by decide +kernel
theorem dX8_route_60 : decode cX8_route 60 = .ok (.aload_n 0, 1) := by decide +kernel
theorem dX8_route_61 : decode cX8_route 61 = .ok (.invokevirtual 58, 3) := by decide +kernel
theorem dX8_route_64 : decode cX8_route 64 = .ok (.aload_n 0, 1) := by decide +kernel
theorem dX8_route_65 : decode cX8_route 65 = .ok (.iload_n 1, 1) := by decide +kernel
theorem dX8_route_66 : decode cX8_route 66 = .ok (.invokevirtual 64, 3) := by decide +kernel
theorem dX8_route_69 : decode cX8_route 69 = .ok (.istore 4, 2) := by decide +kernel
theorem dX8_route_71 : decode cX8_route 71 = .ok (.iload_n 3, 1) := by decide +kernel
theorem dX8_route_72 : decode cX8_route 72 = .ok (.ifCond .eq 16, 3) := by decide +kernel
theorem dX8_route_75 : decode cX8_route 75 = .ok (.aload_n 0, 1) := by decide +kernel
theorem dX8_route_76 : decode cX8_route 76 = .ok (.getfield 7, 3) := by decide +kernel
theorem dX8_route_79 : decode cX8_route 79 = .ok (.bipush 76, 2) := by decide +kernel
theorem dX8_route_81 : decode cX8_route 81 = .ok (.iload 4, 2) := by decide +kernel
theorem dX8_route_83 : decode cX8_route 83 = .ok (.iadd, 1) := by decide +kernel
theorem dX8_route_84 : decode cX8_route 84 = .ok (.iaload, 1) := by decide +kernel
theorem dX8_route_85 : decode cX8_route 85 = .ok (.goto 4, 3) := by decide +kernel
theorem dX8_route_88 : decode cX8_route 88 = .ok (.iconst (-1), 1) := by decide +kernel
theorem dX8_route_89 : decode cX8_route 89 = .ok (.istore 5, 2) := by decide +kernel
theorem dX8_route_91 : decode cX8_route 91 = .ok (.iload_n 3, 1) := by decide +kernel
theorem dX8_route_92 : decode cX8_route 92 = .ok (.ifCond .ne 80, 3) := by decide +kernel
theorem dX8_route_95 : decode cX8_route 95 = .ok (.aload_n 0, 1) := by decide +kernel
theorem dX8_route_96 : decode cX8_route 96 = .ok (.getfield 7, 3) := by decide +kernel
theorem dX8_route_99 : decode cX8_route 99 = .ok (.bipush 8, 2) := by decide +kernel
theorem dX8_route_101 : decode cX8_route 101 = .ok (.iaload, 1) := by decide +kernel
theorem dX8_route_102 : decode cX8_route 102 = .ok (.istore 6, 2) := by decide +kernel
theorem dX8_route_104 : decode cX8_route 104 = .ok (.iload 6, 2) := by decide +kernel
theorem dX8_route_106 : decode cX8_route 106 = .ok (.iload 4, 2) := by decide +kernel
theorem dX8_route_108 : decode cX8_route 108 = .ok (.if_icmp .le 53, 3) := by decide +kernel
theorem dX8_route_111 : decode cX8_route 111 = .ok (.aload_n 0, 1) := by decide +kernel
theorem dX8_route_112 : decode cX8_route 112 = .ok (.getfield 7, 3) := by decide +kernel
theorem dX8_route_115 : decode cX8_route 115 = .ok (.bipush 46, 2) := by decide +kernel
theorem dX8_route_117 : decode cX8_route 117 = .ok (.iload 6, 2) := by decide +kernel
theorem dX8_route_119 : decode cX8_route 119 = .ok (.iadd, 1) := by decide +kernel
theorem dX8_route_120 : decode cX8_route 120 = .ok (.aload_n 0, 1) := by decide +kernel
theorem dX8_route_121 : decode cX8_route 121 = .ok (.getfield 7, 3) := by decide +kernel
theorem dX8_route_124 : decode cX8_route 124 = .ok (.bipush 46, 2) := by decide +kernel
theorem dX8_route_126 : decode cX8_route 126 = .ok (.iload 6, 2) := by decide +kernel
theorem dX8_route_128 : decode cX8_route 128 = .ok (.iadd, 1) := by decide +kernel
theorem dX8_route_129 : decode cX8_route 129 = .ok (.iconst 1, 1) := by decide +kernel
theorem dX8_route_130 : decode cX8_route 130 = .ok (.isub, 1) := by decide +kernel
theorem dX8_route_131 : decode cX8_route 131 = .ok (.iaload, 1) := by decide +kernel
theorem dX8_route_132 : decode cX8_route 132 = .ok (.iastore, 1) := by decide +kernel
theorem dX8_route_133 : decode cX8_route 133 = .ok (.aload_n 0, 1) := by decide +kernel
theorem dX8_route_134 : decode cX8_route 134 = .ok (.getfield 7, 3) := by decide +kernel
theorem dX8_route_137 : decode cX8_route 137 = .ok (.bipush 76, 2) := by decide +kernel
theorem dX8_route_139 : decode cX8_route 139 = .ok (.iload 6, 2) := by decide +kernel
theorem dX8_route_141 : decode cX8_route 141 = .ok (.iadd, 1) := by decide +kernel
theorem dX8_route_142 : decode cX8_route 142 = .ok (.aload_n 0, 1) := by decide +kernel
theorem dX8_route_143 : decode cX8_route 143 = .ok (.getfield 7, 3) := by decide +kernel
theorem dX8_route_146 : decode cX8_route 146 = .ok (.bipush 76, 2) := by decide +kernel
theorem dX8_route_148 : decode cX8_route 148 = .ok (.iload 6, 2) := by decide +kernel
theorem dX8_route_150 : decode cX8_route 150 = .ok (.iadd, 1) := by decide +kernel
theorem dX8_route_151 : decode cX8_route 151 = .ok (.iconst 1, 1) := by decide +kernel
theorem dX8_route_152 : decode cX8_route 152 = .ok (.isub, 1) := by decide +kernel
theorem dX8_route_153 : decode cX8_route 153 = .ok (.iaload, 1) := by decide +kernel
theorem dX8_route_154 : decode cX8_route 154 = .ok (.iastore, 1) := by decide +kernel
theorem dX8_route_155 : decode cX8_route 155 = .ok (.iinc 6 (-1), 3) := by decide +kernel
theorem dX8_route_158 : decode cX8_route 158 = .ok (.goto (-54), 3) := by decide +kernel
theorem dX8_route_161 : decode cX8_route 161 = .ok (.aload_n 0, 1) := by decide +kernel
theorem dX8_route_162 : decode cX8_route 162 = .ok (.getfield 7, 3) := by decide +kernel
theorem dX8_route_165 : decode cX8_route 165 = .ok (.bipush 8, 2) := by decide +kernel
theorem dX8_route_167 : decode cX8_route 167 = .ok (.dup2, 1) := by decide +kernel
theorem dX8_route_168 : decode cX8_route 168 = .ok (.iaload, 1) := by decide +kernel
theorem dX8_route_169 : decode cX8_route 169 = .ok (.iconst 1, 1) := by decide +kernel
theorem dX8_route_170 : decode cX8_route 170 = .ok (.iadd, 1) := by decide +kernel
theorem dX8_route_171 : decode cX8_route 171 = .ok (.iastore, 1) := by decide +kernel
theorem dX8_route_172 : decode cX8_route 172 = .ok (.aload_n 0, 1) := by decide +kernel
theorem dX8_route_173 : decode cX8_route 173 = .ok (.getfield 7, 3) := by decide +kernel
theorem dX8_route_176 : decode cX8_route 176 = .ok (.bipush 46, 2) := by decide +kernel
theorem dX8_route_178 : decode cX8_route 178 = .ok (.iload 4, 2) := by decide +kernel
theorem dX8_route_180 : decode cX8_route 180 = .ok (.iadd, 1) := by decide +kernel
theorem dX8_route_181 : decode cX8_route 181 = .ok (.iload_n 1, 1) := by decide +kernel
theorem dX8_route_182 : decode cX8_route 182 = .ok (.iastore, 1) := by decide +kernel
theorem dX8_route_183 : decode cX8_route 183 = .ok (.aload_n 0, 1) := by decide +kernel
theorem dX8_route_184 : decode cX8_route 184 = .ok (.getfield 7, 3) := by decide +kernel
theorem dX8_route_187 : decode cX8_route 187 = .ok (.bipush 76, 2) := by decide +kernel
theorem dX8_route_189 : decode cX8_route 189 = .ok (.iload 4, 2) := by decide +kernel
theorem dX8_route_191 : decode cX8_route 191 = .ok (.iadd, 1) := by decide +kernel
theorem dX8_route_192 : decode cX8_route 192 = .ok (.iload_n 2, 1) := by decide +kernel
theorem dX8_route_193 : decode cX8_route 193 = .ok (.iastore, 1) := by decide +kernel
theorem dX8_route_194 : decode cX8_route 194 = .ok (.iload 5, 2) := by decide +kernel
theorem dX8_route_196 : decode cX8_route 196 = .ok (.ireturn, 1) := by decide +kernel
theorem dX8_removeRoute_0 : decode cX8_removeRoute 0 = .ok (.aload_n 0, 1) := by decide +kernel
theorem dX8_removeRoute_1 : decode cX8_removeRoute 1 = .ok (.iconst 0, 1) := by decide +kernel
theorem dX8_removeRoute_2 : decode cX8_removeRoute 2 = .ok (.putfield 25, 3) := by decide +kernel
theorem dX8_removeRoute_5 : decode cX8_removeRoute 5 = .ok (.iload_n 1, 1) := by decide +kernel
theorem dX8_removeRoute_6 : decode cX8_removeRoute 6 = .ok (.invokestatic 67, 3) := by decide +kernel
theorem dX8_removeRoute_9 : decode cX8_removeRoute 9 = .ok (.ifCond .ne 9, 3) := by decide +kernel
theorem dX8_removeRoute_12 : decode cX8_removeRoute 12 = .ok (.aload_n 0, 1) := by decide +kernel
theorem dX8_removeRoute_13 : decode cX8_removeRoute 13 = .ok (.iconst 1, 1) := by decide +kernel
theorem dX8_removeRoute_14 : decode cX8_removeRoute 14 = .ok (.invokevirtual 44, 3) := by decide +kernel
theorem dX8_removeRoute_17 : decode cX8_removeRoute 17 = .ok (.ireturn, 1) := by decide +kernel
theorem dX8_removeRoute_18 : decode cX8_removeRoute 18 = .ok (.aload_n 0, 1) := by decide +kernel
theorem dX8_removeRoute_19 : decode cX8_removeRoute 19 = .ok (.iload_n 1, 1) := by decide +kernel
theorem dX8_removeRoute_20 : decode cX8_removeRoute 20 = .ok (.invokevirtual 70, 3) := by decide +kernel
theorem dX8_removeRoute_23 : decode cX8_removeRoute 23 = .ok (.ifCond .ne 9, 3) := by decide +kernel
theorem dX8_removeRoute_26 : decode cX8_removeRoute 26 = .ok (.aload_n 0, 1) := by decide +kernel
theorem dX8_removeRoute_27 : decode cX8_removeRoute 27 = .ok (.iconst 2, 1) := by decide +kernel
theorem dX8_removeRoute_28 : decode cX8_removeRoute 28 = .ok (.invokevirtual 44, 3) := by decide +kernel
theorem dX8_removeRoute_31 : decode cX8_removeRoute 31 = .ok (.ireturn, 1) := by decide +kernel
theorem dX8_removeRoute_32 : decode cX8_removeRoute 32 = .ok (.aload_n 0, 1) := by decide +kernel
theorem dX8_removeRoute_33 : decode cX8_removeRoute 33 = .ok (.invokevirtual 58, 3) := by decide +kernel
theorem dX8_removeRoute_36 : decode cX8_removeRoute 36 = .ok (.aload_n 0, 1) := by decide +kernel
theorem dX8_removeRoute_37 : decode cX8_removeRoute 37 = .ok (.iload_n 1, 1) := by decide +kernel
theorem dX8_removeRoute_38 : decode cX8_removeRoute 38 = .ok (.invokevirtual 64, 3) := by decide +kernel
theorem dX8_removeRoute_41 : decode cX8_removeRoute 41 = .ok (.istore_n 2, 1) := by decide +kernel
theorem dX8_removeRoute_42 : decode cX8_removeRoute 42 = .ok (.aload_n 0, 1) := by decide +kernel
theorem dX8_removeRoute_43 : decode cX8_removeRoute 43 = .ok (.getfield 7, 3) := by decide +kernel
theorem dX8_removeRoute_46 : decode cX8_removeRoute 46 = .ok (.bipush 76, 2) := by decide +kernel
theorem dX8_removeRoute_48 : decode cX8_removeRoute 48 = .ok (.iload_n 2, 1) := by decide +kernel
theorem dX8_removeRoute_49 : decode cX8_removeRoute 49 = .ok (.iadd, 1) := by decide +kernel
theorem dX8_removeRoute_50 : decode cX8_removeRoute 50 = .ok (.iaload, 1) := by decide +kernel
theorem dX8_removeRoute_51 : decode cX8_removeRoute 51 = .ok (.istore_n 3, 1) := by decide +kernel
theorem dX8_removeRoute_52 : decode cX8_removeRoute 52 = .ok (.aload_n 0, 1) := by decide +kernel
theorem dX8_removeRoute_53 : decode cX8_removeRoute 53 = .ok (.getfield 7, 3) := by decide +kernel
theorem dX8_removeRoute_56 : decode cX8_removeRoute 56 = .ok (.bipush 8, 2) := by decide +kernel
theorem dX8_removeRoute_58 : decode cX8_removeRoute 58 = .ok (.dup2, 1) := by decide +kernel
theorem dX8_removeRoute_59 : decode cX8_removeRoute 59 = .ok (.iaload, 1) := by decide +kernel
theorem dX8_removeRoute_60 : decode cX8_removeRoute 60 = .ok (.iconst 1, 1) := by decide +kernel
theorem dX8_removeRoute_61 : decode cX8_removeRoute 61 = .ok (.isub, 1) := by decide +kernel
theorem dX8_removeRoute_62 : decode cX8_removeRoute 62 = .ok (.iastore, 1) := by decide +kernel
theorem dX8_removeRoute_63 : decode cX8_removeRoute 63 = .ok (.iload_n 2, 1) := by decide +kernel
theorem dX8_removeRoute_64 : decode cX8_removeRoute 64 = .ok (.istore 4, 2) := by decide +kernel
theorem dX8_removeRoute_66 : decode cX8_removeRoute 66 = .ok (.iload 4, 2) := by decide +kernel
theorem dX8_removeRoute_68 : decode cX8_removeRoute 68 = .ok (.aload_n 0, 1) := by decide +kernel
theorem dX8_removeRoute_69 : decode cX8_removeRoute 69 = .ok (.getfield 7, 3) := by decide +kernel
theorem dX8_removeRoute_72 : decode cX8_removeRoute 72 = .ok (.bipush 8, 2) := by decide +kernel
theorem dX8_removeRoute_74 : decode cX8_removeRoute 74 = .ok (.iaload, 1) := by decide +kernel
theorem dX8_removeRoute_75 : decode cX8_removeRoute 75 = .ok (.if_icmp .ge 53, 3) := by decide +kernel
theorem dX8_removeRoute_78 : decode cX8_removeRoute 78 = .ok (.aload_n 0, 1) := by decide +kernel
theorem dX8_removeRoute_79 : decode cX8_removeRoute 79 = .ok (.getfield 7, 3) := by decide +kernel
theorem dX8_removeRoute_82 : decode cX8_removeRoute 82 = .ok (.bipush 46, 2) := by decide +kernel
theorem dX8_removeRoute_84 : decode cX8_removeRoute 84 = .ok (.iload 4, 2) := by decide +kernel
theorem dX8_removeRoute_86 : decode cX8_removeRoute 86 = .ok (.iadd, 1) := by decide +kernel
theorem dX8_removeRoute_87 : decode cX8_removeRoute 87 = .ok (.aload_n 0, 1) := by decide +kernel
theorem dX8_removeRoute_88 : decode cX8_removeRoute 88 = .ok (.getfield 7, 3) := by decide +kernel
theorem dX8_removeRoute_91 : decode cX8_removeRoute 91 = .ok (.bipush 46, 2) := by decide +kernel
theorem dX8_removeRoute_93 : decode cX8_removeRoute 93 = .ok (.iload 4, 2) := by decide +kernel
theorem dX8_removeRoute_95 : decode cX8_removeRoute 95 = .ok (.iadd, 1) := by decide +kernel
theorem dX8_removeRoute_96 : decode cX8_removeRoute 96 = .ok (.iconst 1, 1) := by decide +kernel
theorem dX8_removeRoute_97 : decode cX8_removeRoute 97 = .ok (.iadd, 1) := by decide +kernel
theorem dX8_removeRoute_98 : decode cX8_removeRoute 98 = .ok (.iaload, 1) := by decide +kernel
theorem dX8_removeRoute_99 : decode cX8_removeRoute 99 = .ok (.iastore, 1) := by decide +kernel
theorem dX8_removeRoute_100 : decode cX8_removeRoute 100 = .ok (.aload_n 0, 1) := by decide +kernel
theorem dX8_removeRoute_101 : decode cX8_removeRoute 101 = .ok (.getfield 7, 3) := by decide +kernel
theorem dX8_removeRoute_104 : decode cX8_removeRoute 104 = .ok (.bipush 76, 2) := by decide +kernel
theorem dX8_removeRoute_106 : decode cX8_removeRoute 106 = .ok (.iload 4, 2) := by decide +kernel
theorem dX8_removeRoute_108 : decode cX8_removeRoute 108 = .ok (.iadd, 1) := by decide +kernel
theorem dX8_removeRoute_109 : decode cX8_removeRoute 109 = .ok (.aload_n 0, 1) := by decide +kernel
theorem dX8_removeRoute_110 : decode cX8_removeRoute 110 = .ok (.getfield 7, 3) := by decide +kernel
theorem dX8_removeRoute_113 : decode cX8_removeRoute 113 = .ok (.bipush 76, 2) := by decide +kernel
theorem dX8_removeRoute_115 : decode cX8_removeRoute 115 = .ok (.iload 4, 2) := by decide +kernel
theorem dX8_removeRoute_117 : decode cX8_removeRoute 117 = .ok (.iadd, 1) := by decide +kernel
theorem dX8_removeRoute_118 : decode cX8_removeRoute 118 = .ok (.iconst 1, 1) := by decide +kernel
theorem dX8_removeRoute_119 : decode cX8_removeRoute 119 = .ok (.iadd, 1) := by decide +kernel
theorem dX8_removeRoute_120 : decode cX8_removeRoute 120 = .ok (.iaload, 1) := by decide +kernel
theorem dX8_removeRoute_121 : decode cX8_removeRoute 121 = .ok (.iastore, 1) := by decide +kernel
theorem dX8_removeRoute_122 : decode cX8_removeRoute 122 = .ok (.iinc 4 1, 3) := by decide +kernel
theorem dX8_removeRoute_125 : decode cX8_removeRoute 125 = .ok (.goto (-59), 3) := by decide +kernel
theorem dX8_removeRoute_128 : decode cX8_removeRoute 128 = .ok (.iload_n 3, 1) := by decide +kernel
theorem dX8_removeRoute_129 : decode cX8_removeRoute 129 = .ok (.ireturn, 1) := by decide +kernel
theorem dX8_numberAt_0 : decode cX8_numberAt 0 = .ok (.iconst 0, 1) := by decide +kernel
theorem dX8_numberAt_1 : decode cX8_numberAt 1 = .ok (.istore_n 1, 1) := by decide +kernel
theorem dX8_numberAt_2 : decode cX8_numberAt 2 = .ok (.aload_n 0, 1) := by decide +kernel
theorem dX8_numberAt_3 : decode cX8_numberAt 3 = .ok (.getfield 7, 3) := by decide +kernel
theorem dX8_numberAt_6 : decode cX8_numberAt 6 = .ok (.bipush 106, 2) := by decide +kernel
theorem dX8_numberAt_8 : decode cX8_numberAt 8 = .ok (.aload_n 0, 1) := by decide +kernel
theorem dX8_numberAt_9 : decode cX8_numberAt 9 = .ok (.getfield 73, 3) := by decide +kernel
theorem dX8_numberAt_12 : decode cX8_numberAt 12 = .ok (.iadd, 1) := by decide +kernel
theorem dX8_numberAt_13 : decode cX8_numberAt 13 = .ok (.iaload, 1) := by decide +kernel
theorem dX8_numberAt_14 : decode cX8_numberAt 14 = .ok (.bipush 48, 2) := by decide +kernel
theorem dX8_numberAt_16 : decode cX8_numberAt 16 = .ok (.bipush 57, 2) := by decide +kernel
theorem dX8_numberAt_18 : decode cX8_numberAt 18 = .ok (.invokestatic 40, 3) := by decide +kernel
theorem dX8_numberAt_21 : decode cX8_numberAt 21 = .ok (.ifCond .eq 37, 3) := by decide +kernel
theorem dX8_numberAt_24 : decode cX8_numberAt 24 = .ok (.bipush 10, 2) := by decide +kernel
theorem dX8_numberAt_26 : decode cX8_numberAt 26 = .ok (.iload_n 1, 1) := by decide +kernel
theorem dX8_numberAt_27 : decode cX8_numberAt 27 = .ok (.imul, 1) := by decide +kernel
theorem dX8_numberAt_28 : decode cX8_numberAt 28 = .ok (.aload_n 0, 1) := by decide +kernel
theorem dX8_numberAt_29 : decode cX8_numberAt 29 = .ok (.getfield 7, 3) := by decide +kernel
theorem dX8_numberAt_32 : decode cX8_numberAt 32 = .ok (.bipush 106, 2) := by decide +kernel
theorem dX8_numberAt_34 : decode cX8_numberAt 34 = .ok (.aload_n 0, 1) := by decide +kernel
theorem dX8_numberAt_35 : decode cX8_numberAt 35 = .ok (.getfield 73, 3) := by decide +kernel
theorem dX8_numberAt_38 : decode cX8_numberAt 38 = .ok (.iadd, 1) := by decide +kernel
theorem dX8_numberAt_39 : decode cX8_numberAt 39 = .ok (.iaload, 1) := by decide +kernel
theorem dX8_numberAt_40 : decode cX8_numberAt 40 = .ok (.iadd, 1) := by decide +kernel
theorem dX8_numberAt_41 : decode cX8_numberAt 41 = .ok (.bipush 48, 2) := by decide +kernel
theorem dX8_numberAt_43 : decode cX8_numberAt 43 = .ok (.isub, 1) := by decide +kernel
theorem dX8_numberAt_44 : decode cX8_numberAt 44 = .ok (.istore_n 1, 1) := by decide +kernel
theorem dX8_numberAt_45 : decode cX8_numberAt 45 = .ok (.aload_n 0, 1) := by decide +kernel
theorem dX8_numberAt_46 : decode cX8_numberAt 46 = .ok (.dup, 1) := by decide +kernel
theorem dX8_numberAt_47 : decode cX8_numberAt 47 = .ok (.getfield 73, 3) := by decide +kernel
theorem dX8_numberAt_50 : decode cX8_numberAt 50 = .ok (.iconst 1, 1) := by decide +kernel
theorem dX8_numberAt_51 : decode cX8_numberAt 51 = .ok (.iadd, 1) := by decide +kernel
theorem dX8_numberAt_52 : decode cX8_numberAt 52 = .ok (.putfield 73, 3) := by decide +kernel
theorem dX8_numberAt_55 : decode cX8_numberAt 55 = .ok (.goto (-53), 3) := by decide +kernel
theorem dX8_numberAt_58 : decode cX8_numberAt 58 = .ok (.iload_n 1, 1) := by decide +kernel
theorem dX8_numberAt_59 : decode cX8_numberAt 59 = .ok (.ireturn, 1) := by decide +kernel
theorem dX8_holds_0 : decode cX8_holds 0 = .ok (.aload_n 0, 1) := by decide +kernel
theorem dX8_holds_1 : decode cX8_holds 1 = .ok (.getfield 7, 3) := by decide +kernel
theorem dX8_holds_4 : decode cX8_holds 4 = .ok (.bipush 106, 2) := by decide +kernel
theorem dX8_holds_6 : decode cX8_holds 6 = .ok (.aload_n 0, 1) := by decide +kernel
theorem dX8_holds_7 : decode cX8_holds 7 = .ok (.getfield 73, 3) := by decide +kernel
theorem dX8_holds_10 : decode cX8_holds 10 = .ok (.iadd, 1) := by decide +kernel
theorem dX8_holds_11 : decode cX8_holds 11 = .ok (.iaload, 1) := by decide +kernel
theorem dX8_holds_12 : decode cX8_holds 12 = .ok (.istore_n 3, 1) := by decide +kernel
theorem dX8_holds_13 : decode cX8_holds 13 = .ok (.aload_n 0, 1) := by decide +kernel
theorem dX8_holds_14 : decode cX8_holds 14 = .ok (.dup, 1) := by decide +kernel
theorem dX8_holds_15 : decode cX8_holds 15 = .ok (.getfield 73, 3) := by decide +kernel
theorem dX8_holds_18 : decode cX8_holds 18 = .ok (.iconst 1, 1) := by decide +kernel
theorem dX8_holds_19 : decode cX8_holds 19 = .ok (.iadd, 1) := by decide +kernel
theorem dX8_holds_20 : decode cX8_holds 20 = .ok (.putfield 73, 3) := by decide +kernel
theorem dX8_holds_23 : decode cX8_holds 23 = .ok (.aload_n 0, 1) := by decide +kernel
theorem dX8_holds_24 : decode cX8_holds 24 = .ok (.invokevirtual 76, 3) := by decide +kernel
theorem dX8_holds_27 : decode cX8_holds 27 = .ok (.istore 4, 2) := by decide +kernel
theorem dX8_holds_29 : decode cX8_holds 29 = .ok (.aload_n 0, 1) := by decide +kernel
theorem dX8_holds_30 : decode cX8_holds 30 = .ok (.dup, 1) := by decide +kernel
theorem dX8_holds_31 : decode cX8_holds 31 = .ok (.getfield 73, 3) := by decide +kernel
theorem dX8_holds_34 : decode cX8_holds 34 = .ok (.iconst 1, 1) := by decide +kernel
theorem dX8_holds_35 : decode cX8_holds 35 = .ok (.iadd, 1) := by decide +kernel
theorem dX8_holds_36 : decode cX8_holds 36 = .ok (.putfield 73, 3) := by decide +kernel
theorem dX8_holds_39 : decode cX8_holds 39 = .ok (.iload_n 3, 1) := by decide +kernel
theorem dX8_holds_40 : decode cX8_holds 40 = .ok (.bipush 109, 2) := by decide +kernel
theorem dX8_holds_42 : decode cX8_holds 42 = .ok (.if_icmp .eq 25, 3) := by decide +kernel
theorem dX8_holds_45 : decode cX8_holds 45 = .ok (.iload_n 3, 1) := by decide +kernel
theorem dX8_holds_46 : decode cX8_holds 46 = .ok (.bipush 99, 2) := by decide +kernel
theorem dX8_holds_48 : decode cX8_holds 48 = .ok (.if_icmp .ne 7, 3) := by decide +kernel
theorem dX8_holds_51 : decode cX8_holds 51 = .ok (.iload_n 1, 1) := by decide +kernel
theorem dX8_holds_52 : decode cX8_holds 52 = .ok (.goto 4, 3) := by decide +kernel
theorem dX8_holds_55 : decode cX8_holds 55 = .ok (.iload_n 2, 1) := by decide +kernel
theorem dX8_holds_56 : decode cX8_holds 56 = .ok (.iload 4, 2) := by decide +kernel
theorem dX8_holds_58 : decode cX8_holds 58 = .ok (.if_icmp .ge 7, 3) := by decide +kernel
theorem dX8_holds_61 : decode cX8_holds 61 = .ok (.iconst 1, 1) := by decide +kernel
theorem dX8_holds_62 : decode cX8_holds 62 = .ok (.goto 4, 3) := by decide +kernel
theorem dX8_holds_65 : decode cX8_holds 65 = .ok (.iconst 0, 1) := by decide +kernel
theorem dX8_holds_66 : decode cX8_holds 66 = .ok (.ireturn, 1) := by decide +kernel
theorem dX8_holds_67 : decode cX8_holds 67 = .ok (.aload_n 0, 1) := by decide +kernel
theorem dX8_holds_68 : decode cX8_holds 68 = .ok (.invokevirtual 76, 3) := by decide +kernel
theorem dX8_holds_71 : decode cX8_holds 71 = .ok (.istore 5, 2) := by decide +kernel
theorem dX8_holds_73 : decode cX8_holds 73 = .ok (.aload_n 0, 1) := by decide +kernel
theorem dX8_holds_74 : decode cX8_holds 74 = .ok (.dup, 1) := by decide +kernel
theorem dX8_holds_75 : decode cX8_holds 75 = .ok (.getfield 73, 3) := by decide +kernel
theorem dX8_holds_78 : decode cX8_holds 78 = .ok (.iconst 1, 1) := by decide +kernel
theorem dX8_holds_79 : decode cX8_holds 79 = .ok (.iadd, 1) := by decide +kernel
theorem dX8_holds_80 : decode cX8_holds 80 = .ok (.putfield 73, 3) := by decide +kernel
theorem dX8_holds_83 : decode cX8_holds 83 = .ok (.iload_n 1, 1) := by decide +kernel
theorem dX8_holds_84 : decode cX8_holds 84 = .ok (.iload 4, 2) := by decide +kernel
theorem dX8_holds_86 : decode cX8_holds 86 = .ok (.irem, 1) := by decide +kernel
theorem dX8_holds_87 : decode cX8_holds 87 = .ok (.iload 5, 2) := by decide +kernel
theorem dX8_holds_89 : decode cX8_holds 89 = .ok (.if_icmp .ne 7, 3) := by decide +kernel
theorem dX8_holds_92 : decode cX8_holds 92 = .ok (.iconst 1, 1) := by decide +kernel
theorem dX8_holds_93 : decode cX8_holds 93 = .ok (.goto 4, 3) := by decide +kernel
theorem dX8_holds_96 : decode cX8_holds 96 = .ok (.iconst 0, 1) := by decide +kernel
theorem dX8_holds_97 : decode cX8_holds 97 = .ok (.ireturn, 1) := by decide +kernel
theorem dX8_skip_0 : decode cX8_skip 0 = .ok (.iconst 1, 1) := by decide +kernel
theorem dX8_skip_1 : decode cX8_skip 1 = .ok (.istore_n 1, 1) := by decide +kernel
theorem dX8_skip_2 : decode cX8_skip 2 = .ok (.iload_n 1, 1) := by decide +kernel
theorem dX8_skip_3 : decode cX8_skip 3 = .ok (.ifCond .le 56, 3) := by decide +kernel
theorem dX8_skip_6 : decode cX8_skip 6 = .ok (.aload_n 0, 1) := by decide +kernel
theorem dX8_skip_7 : decode cX8_skip 7 = .ok (.getfield 7, 3) := by decide +kernel
theorem dX8_skip_10 : decode cX8_skip 10 = .ok (.bipush 106, 2) := by decide +kernel
theorem dX8_skip_12 : decode cX8_skip 12 = .ok (.aload_n 0, 1) := by decide +kernel
theorem dX8_skip_13 : decode cX8_skip 13 = .ok (.getfield 73, 3) := by decide +kernel
theorem dX8_skip_16 : decode cX8_skip 16 = .ok (.iadd, 1) := by decide +kernel
theorem dX8_skip_17 : decode cX8_skip 17 = .ok (.iaload, 1) := by decide +kernel
theorem dX8_skip_18 : decode cX8_skip 18 = .ok (.istore_n 2, 1) := by decide +kernel
theorem dX8_skip_19 : decode cX8_skip 19 = .ok (.aload_n 0, 1) := by decide +kernel
theorem dX8_skip_20 : decode cX8_skip 20 = .ok (.dup, 1) := by decide +kernel
theorem dX8_skip_21 : decode cX8_skip 21 = .ok (.getfield 73, 3) := by decide +kernel
theorem dX8_skip_24 : decode cX8_skip 24 = .ok (.iconst 1, 1) := by decide +kernel
theorem dX8_skip_25 : decode cX8_skip 25 = .ok (.iadd, 1) := by decide +kernel
theorem dX8_skip_26 : decode cX8_skip 26 = .ok (.putfield 73, 3) := by decide +kernel
theorem dX8_skip_29 : decode cX8_skip 29 = .ok (.iload_n 1, 1) := by decide +kernel
theorem dX8_skip_30 : decode cX8_skip 30 = .ok (.iload_n 2, 1) := by decide +kernel
theorem dX8_skip_31 : decode cX8_skip 31 = .ok (.bipush 63, 2) := by decide +kernel
theorem dX8_skip_33 : decode cX8_skip 33 = .ok (.if_icmp .ne 7, 3) := by decide +kernel
theorem dX8_skip_36 : decode cX8_skip 36 = .ok (.iconst 1, 1) := by decide +kernel
theorem dX8_skip_37 : decode cX8_skip 37 = .ok (.goto 4, 3) := by decide +kernel
theorem dX8_skip_40 : decode cX8_skip 40 = .ok (.iconst (-1), 1) := by decide +kernel
theorem dX8_skip_41 : decode cX8_skip 41 = .ok (.iadd, 1) := by decide +kernel
theorem dX8_skip_42 : decode cX8_skip 42 = .ok (.istore_n 1, 1) := by decide +kernel
theorem dX8_skip_43 : decode cX8_skip 43 = .ok (.iload_n 2, 1) := by decide +kernel
theorem dX8_skip_44 : decode cX8_skip 44 = .ok (.bipush 63, 2) := by decide +kernel
theorem dX8_skip_46 : decode cX8_skip 46 = .ok (.if_icmp .ne 10, 3) := by decide +kernel
theorem dX8_skip_49 : decode cX8_skip 49 = .ok (.aload_n 0, 1) := by decide +kernel
theorem dX8_skip_50 : decode cX8_skip 50 = .ok (.iconst 0, 1) := by decide +kernel
theorem dX8_skip_51 : decode cX8_skip 51 = .ok (.iconst 0, 1) := by decide +kernel
theorem dX8_skip_52 : decode cX8_skip 52 = .ok (.invokevirtual 79, 3) := by decide +kernel
theorem dX8_skip_55 : decode cX8_skip 55 = .ok (.istore_n 3, 1) := by decide +kernel
theorem dX8_skip_56 : decode cX8_skip 56 = .ok (.goto (-54), 3) := by decide +kernel
theorem dX8_skip_59 : decode cX8_skip 59 = .ok (.return_, 1) := by decide +kernel
theorem dX8_byRule_0 : decode cX8_byRule 0 = .ok (.aload_n 0, 1) := by decide +kernel
theorem dX8_byRule_1 : decode cX8_byRule 1 = .ok (.iconst 0, 1) := by decide +kernel
theorem dX8_byRule_2 : decode cX8_byRule 2 = .ok (.putfield 73, 3) := by decide +kernel
theorem dX8_byRule_5 : decode cX8_byRule 5 = .ok (.aload_n 0, 1) := by decide +kernel
theorem dX8_byRule_6 : decode cX8_byRule 6 = .ok (.getfield 7, 3) := by decide +kernel
theorem dX8_byRule_9 : decode cX8_byRule 9 = .ok (.bipush 106, 2) := by decide +kernel
theorem dX8_byRule_11 : decode cX8_byRule 11 = .ok (.aload_n 0, 1) := by decide +kernel
theorem dX8_byRule_12 : decode cX8_byRule 12 = .ok (.getfield 73, 3) := by decide +kernel
theorem dX8_byRule_15 : decode cX8_byRule 15 = .ok (.iadd, 1) := by decide +kernel
theorem dX8_byRule_16 : decode cX8_byRule 16 = .ok (.iaload, 1) := by decide +kernel
theorem dX8_byRule_17 : decode cX8_byRule 17 = .ok (.bipush 63, 2) := by decide +kernel
theorem dX8_byRule_19 : decode cX8_byRule 19 = .ok (.if_icmp .ne 29, 3) := by decide +kernel
theorem dX8_byRule_22 : decode cX8_byRule 22 = .ok (.aload_n 0, 1) := by decide +kernel
theorem dX8_byRule_23 : decode cX8_byRule 23 = .ok (.dup, 1) := by decide +kernel
theorem dX8_byRule_24 : decode cX8_byRule 24 = .ok (.getfield 73, 3) := by decide +kernel
theorem dX8_byRule_27 : decode cX8_byRule 27 = .ok (.iconst 1, 1) := by decide +kernel
theorem dX8_byRule_28 : decode cX8_byRule 28 = .ok (.iadd, 1) := by decide +kernel
theorem dX8_byRule_29 : decode cX8_byRule 29 = .ok (.putfield 73, 3) := by decide +kernel
theorem dX8_byRule_32 : decode cX8_byRule 32 = .ok (.aload_n 0, 1) := by decide +kernel
theorem dX8_byRule_33 : decode cX8_byRule 33 = .ok (.iload_n 1, 1) := by decide +kernel
theorem dX8_byRule_34 : decode cX8_byRule 34 = .ok (.iload_n 2, 1) := by decide +kernel
theorem dX8_byRule_35 : decode cX8_byRule 35 = .ok (.invokevirtual 79, 3) := by decide +kernel
theorem dX8_byRule_38 : decode cX8_byRule 38 = .ok (.ifCond .ne (-33), 3) := by decide +kernel
theorem dX8_byRule_41 : decode cX8_byRule 41 = .ok (.aload_n 0, 1) := by decide +kernel
theorem dX8_byRule_42 : decode cX8_byRule 42 = .ok (.invokevirtual 83, 3) := by decide +kernel
theorem dX8_byRule_45 : decode cX8_byRule 45 = .ok (.goto (-40), 3) := by decide +kernel
theorem dX8_byRule_48 : decode cX8_byRule 48 = .ok (.aload_n 0, 1) := by decide +kernel
theorem dX8_byRule_49 : decode cX8_byRule 49 = .ok (.getfield 7, 3) := by decide +kernel
theorem dX8_byRule_52 : decode cX8_byRule 52 = .ok (.bipush 106, 2) := by decide +kernel
theorem dX8_byRule_54 : decode cX8_byRule 54 = .ok (.aload_n 0, 1) := by decide +kernel
theorem dX8_byRule_55 : decode cX8_byRule 55 = .ok (.getfield 73, 3) := by decide +kernel
theorem dX8_byRule_58 : decode cX8_byRule 58 = .ok (.iadd, 1) := by decide +kernel
theorem dX8_byRule_59 : decode cX8_byRule 59 = .ok (.iaload, 1) := by decide +kernel
theorem dX8_byRule_60 : decode cX8_byRule 60 = .ok (.bipush 48, 2) := by decide +kernel
theorem dX8_byRule_62 : decode cX8_byRule 62 = .ok (.isub, 1) := by decide +kernel
theorem dX8_byRule_63 : decode cX8_byRule 63 = .ok (.istore_n 3, 1) := by decide +kernel
theorem dX8_byRule_64 : decode cX8_byRule 64 = .ok (.aload_n 0, 1) := by decide +kernel
theorem dX8_byRule_65 : decode cX8_byRule 65 = .ok (.iload_n 3, 1) := by decide +kernel
theorem dX8_byRule_66 : decode cX8_byRule 66 = .ok (.invokevirtual 61, 3) := by decide +kernel
theorem dX8_byRule_69 : decode cX8_byRule 69 = .ok (.ifCond .eq 7, 3) := by decide +kernel
theorem dX8_byRule_72 : decode cX8_byRule 72 = .ok (.iload_n 3, 1) := by decide +kernel
theorem dX8_byRule_73 : decode cX8_byRule 73 = .ok (.goto 4, 3) := by decide +kernel
theorem dX8_byRule_76 : decode cX8_byRule 76 = .ok (.iconst (-1), 1) := by decide +kernel
theorem dX8_byRule_77 : decode cX8_byRule 77 = .ok (.ireturn, 1) := by decide +kernel
theorem dX8_laneBy_0 : decode cX8_laneBy 0 = .ok (.aload_n 0, 1) := by decide +kernel
theorem dX8_laneBy_1 : decode cX8_laneBy 1 = .ok (.iload_n 1, 1) := by decide +kernel
theorem dX8_laneBy_2 : decode cX8_laneBy 2 = .ok (.invokevirtual 70, 3) := by decide +kernel
theorem dX8_laneBy_5 : decode cX8_laneBy 5 = .ok (.ifCond .eq 19, 3) := by decide +kernel
theorem dX8_laneBy_8 : decode cX8_laneBy 8 = .ok (.aload_n 0, 1) := by decide +kernel
theorem dX8_laneBy_9 : decode cX8_laneBy 9 = .ok (.getfield 7, 3) := by decide +kernel
theorem dX8_laneBy_12 : decode cX8_laneBy 12 = .ok (.bipush 76, 2) := by decide +kernel
theorem dX8_laneBy_14 : decode cX8_laneBy 14 = .ok (.aload_n 0, 1) := by decide +kernel
theorem dX8_laneBy_15 : decode cX8_laneBy 15 = .ok (.iload_n 1, 1) := by decide +kernel
theorem dX8_laneBy_16 : decode cX8_laneBy 16 = .ok (.invokevirtual 64, 3) := by decide +kernel
theorem dX8_laneBy_19 : decode cX8_laneBy 19 = .ok (.iadd, 1) := by decide +kernel
theorem dX8_laneBy_20 : decode cX8_laneBy 20 = .ok (.iaload, 1) := by decide +kernel
theorem dX8_laneBy_21 : decode cX8_laneBy 21 = .ok (.goto 9, 3) := by decide +kernel
theorem dX8_laneBy_24 : decode cX8_laneBy 24 = .ok (.aload_n 0, 1) := by decide +kernel
theorem dX8_laneBy_25 : decode cX8_laneBy 25 = .ok (.iload_n 1, 1) := by decide +kernel
theorem dX8_laneBy_26 : decode cX8_laneBy 26 = .ok (.iload_n 2, 1) := by decide +kernel
theorem dX8_laneBy_27 : decode cX8_laneBy 27 = .ok (.invokevirtual 86, 3) := by decide +kernel
theorem dX8_laneBy_30 : decode cX8_laneBy 30 = .ok (.ireturn, 1) := by decide +kernel
theorem dX8_laneOf_0 : decode cX8_laneOf 0 = .ok (.aload_n 0, 1) := by decide +kernel
theorem dX8_laneOf_1 : decode cX8_laneOf 1 = .ok (.getfield 7, 3) := by decide +kernel
theorem dX8_laneOf_4 : decode cX8_laneOf 4 = .ok (.sipush 1100, 3) := by decide +kernel
theorem dX8_laneOf_7 : decode cX8_laneOf 7 = .ok (.iload_n 1, 1) := by decide +kernel
theorem dX8_laneOf_8 : decode cX8_laneOf 8 = .ok (.iadd, 1) := by decide +kernel
theorem dX8_laneOf_9 : decode cX8_laneOf 9 = .ok (.iaload, 1) := by decide +kernel
theorem dX8_laneOf_10 : decode cX8_laneOf 10 = .ok (.iconst (-1), 1) := by decide +kernel
theorem dX8_laneOf_11 : decode cX8_laneOf 11 = .ok (.if_icmp .eq 31, 3) := by decide +kernel
theorem dX8_laneOf_14 : decode cX8_laneOf 14 = .ok (.aload_n 0, 1) := by decide +kernel
theorem dX8_laneOf_15 : decode cX8_laneOf 15 = .ok (.getfield 7, 3) := by decide +kernel
theorem dX8_laneOf_18 : decode cX8_laneOf 18 = .ok (.sipush 1400, 3) := by decide +kernel
theorem dX8_laneOf_21 : decode cX8_laneOf 21 = .ok (.iload_n 1, 1) := by decide +kernel
theorem dX8_laneOf_22 : decode cX8_laneOf 22 = .ok (.iadd, 1) := by decide +kernel
theorem dX8_laneOf_23 : decode cX8_laneOf 23 = .ok (.iaload, 1) := by decide +kernel
theorem dX8_laneOf_24 : decode cX8_laneOf 24 = .ok (.iconst 1, 1) := by decide +kernel
theorem dX8_laneOf_25 : decode cX8_laneOf 25 = .ok (.if_icmp .eq 17, 3) := by decide +kernel
theorem dX8_laneOf_28 : decode cX8_laneOf 28 = .ok (.aload_n 0, 1) := by decide +kernel
theorem dX8_laneOf_29 : decode cX8_laneOf 29 = .ok (.getfield 7, 3) := by decide +kernel
theorem dX8_laneOf_32 : decode cX8_laneOf 32 = .ok (.sipush 1700, 3) := by decide +kernel
theorem dX8_laneOf_35 : decode cX8_laneOf 35 = .ok (.iload_n 1, 1) := by decide +kernel
theorem dX8_laneOf_36 : decode cX8_laneOf 36 = .ok (.iadd, 1) := by decide +kernel
theorem dX8_laneOf_37 : decode cX8_laneOf 37 = .ok (.iaload, 1) := by decide +kernel
theorem dX8_laneOf_38 : decode cX8_laneOf 38 = .ok (.iconst 1, 1) := by decide +kernel
theorem dX8_laneOf_39 : decode cX8_laneOf 39 = .ok (.if_icmp .ne 5, 3) := by decide +kernel
theorem dX8_laneOf_42 : decode cX8_laneOf 42 = .ok (.iconst (-1), 1) := by decide +kernel
theorem dX8_laneOf_43 : decode cX8_laneOf 43 = .ok (.ireturn, 1) := by decide +kernel
theorem dX8_laneOf_44 : decode cX8_laneOf 44 = .ok (.aload_n 0, 1) := by decide +kernel
theorem dX8_laneOf_45 : decode cX8_laneOf 45 = .ok (.aload_n 0, 1) := by decide +kernel
theorem dX8_laneOf_46 : decode cX8_laneOf 46 = .ok (.getfield 7, 3) := by decide +kernel
theorem dX8_laneOf_49 : decode cX8_laneOf 49 = .ok (.sipush 1100, 3) := by decide +kernel
theorem dX8_laneOf_52 : decode cX8_laneOf 52 = .ok (.iload_n 1, 1) := by decide +kernel
theorem dX8_laneOf_53 : decode cX8_laneOf 53 = .ok (.iadd, 1) := by decide +kernel
theorem dX8_laneOf_54 : decode cX8_laneOf 54 = .ok (.iaload, 1) := by decide +kernel
theorem dX8_laneOf_55 : decode cX8_laneOf 55 = .ok (.aload_n 0, 1) := by decide +kernel
theorem dX8_laneOf_56 : decode cX8_laneOf 56 = .ok (.getfield 7, 3) := by decide +kernel
theorem dX8_laneOf_59 : decode cX8_laneOf 59 = .ok (.sipush 200, 3) := by decide +kernel
theorem dX8_laneOf_62 : decode cX8_laneOf 62 = .ok (.iload_n 1, 1) := by decide +kernel
theorem dX8_laneOf_63 : decode cX8_laneOf 63 = .ok (.iadd, 1) := by decide +kernel
theorem dX8_laneOf_64 : decode cX8_laneOf 64 = .ok (.iaload, 1) := by decide +kernel
theorem dX8_laneOf_65 : decode cX8_laneOf 65 = .ok (.invokevirtual 90, 3) := by decide +kernel
theorem dX8_laneOf_68 : decode cX8_laneOf 68 = .ok (.ireturn, 1) := by decide +kernel
theorem dX8_tail_0 : decode cX8_tail 0 = .ok (.aload_n 0, 1) := by decide +kernel
theorem dX8_tail_1 : decode cX8_tail 1 = .ok (.getfield 7, 3) := by decide +kernel
theorem dX8_tail_4 : decode cX8_tail 4 = .ok (.sipush 500, 3) := by decide +kernel
theorem dX8_tail_7 : decode cX8_tail 7 = .ok (.iload_n 1, 1) := by decide +kernel
theorem dX8_tail_8 : decode cX8_tail 8 = .ok (.iadd, 1) := by decide +kernel
theorem dX8_tail_9 : decode cX8_tail 9 = .ok (.iaload, 1) := by decide +kernel
theorem dX8_tail_10 : decode cX8_tail 10 = .ok (.aload_n 0, 1) := by decide +kernel
theorem dX8_tail_11 : decode cX8_tail 11 = .ok (.getfield 7, 3) := by decide +kernel
theorem dX8_tail_14 : decode cX8_tail 14 = .ok (.sipush 200, 3) := by decide +kernel
theorem dX8_tail_17 : decode cX8_tail 17 = .ok (.iload_n 1, 1) := by decide +kernel
theorem dX8_tail_18 : decode cX8_tail 18 = .ok (.iadd, 1) := by decide +kernel
theorem dX8_tail_19 : decode cX8_tail 19 = .ok (.iaload, 1) := by decide +kernel
theorem dX8_tail_20 : decode cX8_tail 20 = .ok (.isub, 1) := by decide +kernel
theorem dX8_tail_21 : decode cX8_tail 21 = .ok (.ireturn, 1) := by decide +kernel
theorem dX8_middle_0 : decode cX8_middle 0 = .ok (.aload_n 0, 1) := by decide +kernel
theorem dX8_middle_1 : decode cX8_middle 1 = .ok (.getfield 7, 3) := by decide +kernel
theorem dX8_middle_4 : decode cX8_middle 4 = .ok (.sipush 500, 3) := by decide +kernel
theorem dX8_middle_7 : decode cX8_middle 7 = .ok (.iload_n 1, 1) := by decide +kernel
theorem dX8_middle_8 : decode cX8_middle 8 = .ok (.iadd, 1) := by decide +kernel
theorem dX8_middle_9 : decode cX8_middle 9 = .ok (.iaload, 1) := by decide +kernel
theorem dX8_middle_10 : decode cX8_middle 10 = .ok (.aload_n 0, 1) := by decide +kernel
theorem dX8_middle_11 : decode cX8_middle 11 = .ok (.getfield 7, 3) := by decide +kernel
theorem dX8_middle_14 : decode cX8_middle 14 = .ok (.sipush 200, 3) := by decide +kernel
theorem dX8_middle_17 : decode cX8_middle 17 = .ok (.iload_n 1, 1) := by decide +kernel
theorem dX8_middle_18 : decode cX8_middle 18 = .ok (.iadd, 1) := by decide +kernel
theorem dX8_middle_19 : decode cX8_middle 19 = .ok (.iaload, 1) := by decide +kernel
theorem dX8_middle_20 : decode cX8_middle 20 = .ok (.iconst 2, 1) := by decide +kernel
theorem dX8_middle_21 : decode cX8_middle 21 = .ok (.idiv, 1) := by decide +kernel
theorem dX8_middle_22 : decode cX8_middle 22 = .ok (.isub, 1) := by decide +kernel
theorem dX8_middle_23 : decode cX8_middle 23 = .ok (.ireturn, 1) := by decide +kernel
theorem dX8_ahead_0 : decode cX8_ahead 0 = .ok (.iload_n 1, 1) := by decide +kernel
theorem dX8_ahead_1 : decode cX8_ahead 1 = .ok (.iconst 1, 1) := by decide +kernel
theorem dX8_ahead_2 : decode cX8_ahead 2 = .ok (.isub, 1) := by decide +kernel
theorem dX8_ahead_3 : decode cX8_ahead 3 = .ok (.istore_n 2, 1) := by decide +kernel
theorem dX8_ahead_4 : decode cX8_ahead 4 = .ok (.iload_n 2, 1) := by decide +kernel
theorem dX8_ahead_5 : decode cX8_ahead 5 = .ok (.ifCond .lt 17, 3) := by decide +kernel
theorem dX8_ahead_8 : decode cX8_ahead 8 = .ok (.aload_n 0, 1) := by decide +kernel
theorem dX8_ahead_9 : decode cX8_ahead 9 = .ok (.iload_n 2, 1) := by decide +kernel
theorem dX8_ahead_10 : decode cX8_ahead 10 = .ok (.invokevirtual 32, 3) := by decide +kernel
theorem dX8_ahead_13 : decode cX8_ahead 13 = .ok (.ifCond .ne 9, 3) := by decide +kernel
theorem dX8_ahead_16 : decode cX8_ahead 16 = .ok (.iinc 2 (-1), 3) := by decide +kernel
theorem dX8_ahead_19 : decode cX8_ahead 19 = .ok (.goto (-15), 3) := by decide +kernel
theorem dX8_ahead_22 : decode cX8_ahead 22 = .ok (.iload_n 2, 1) := by decide +kernel
theorem dX8_ahead_23 : decode cX8_ahead 23 = .ok (.ireturn, 1) := by decide +kernel
theorem dX8_behind_0 : decode cX8_behind 0 = .ok (.iload_n 1, 1) := by decide +kernel
theorem dX8_behind_1 : decode cX8_behind 1 = .ok (.iconst 1, 1) := by decide +kernel
theorem dX8_behind_2 : decode cX8_behind 2 = .ok (.iadd, 1) := by decide +kernel
theorem dX8_behind_3 : decode cX8_behind 3 = .ok (.istore_n 2, 1) := by decide +kernel
theorem dX8_behind_4 : decode cX8_behind 4 = .ok (.iload_n 2, 1) := by decide +kernel
theorem dX8_behind_5 : decode cX8_behind 5 = .ok (.aload_n 0, 1) := by decide +kernel
theorem dX8_behind_6 : decode cX8_behind 6 = .ok (.getfield 7, 3) := by decide +kernel
theorem dX8_behind_9 : decode cX8_behind 9 = .ok (.bipush 9, 2) := by decide +kernel
theorem dX8_behind_11 : decode cX8_behind 11 = .ok (.iaload, 1) := by decide +kernel
theorem dX8_behind_12 : decode cX8_behind 12 = .ok (.if_icmp .ge 17, 3) := by decide +kernel
theorem dX8_behind_15 : decode cX8_behind 15 = .ok (.aload_n 0, 1) := by decide +kernel
theorem dX8_behind_16 : decode cX8_behind 16 = .ok (.iload_n 2, 1) := by decide +kernel
theorem dX8_behind_17 : decode cX8_behind 17 = .ok (.invokevirtual 32, 3) := by decide +kernel
theorem dX8_behind_20 : decode cX8_behind 20 = .ok (.ifCond .ne 9, 3) := by decide +kernel
theorem dX8_behind_23 : decode cX8_behind 23 = .ok (.iinc 2 1, 3) := by decide +kernel
theorem dX8_behind_26 : decode cX8_behind 26 = .ok (.goto (-22), 3) := by decide +kernel
theorem dX8_behind_29 : decode cX8_behind 29 = .ok (.iload_n 2, 1) := by decide +kernel
theorem dX8_behind_30 : decode cX8_behind 30 = .ok (.ireturn, 1) := by decide +kernel
theorem dX8_latest_0 : decode cX8_latest 0 = .ok (.aload_n 0, 1) := by decide +kernel
theorem dX8_latest_1 : decode cX8_latest 1 = .ok (.aload_n 0, 1) := by decide +kernel
theorem dX8_latest_2 : decode cX8_latest 2 = .ok (.getfield 7, 3) := by decide +kernel
theorem dX8_latest_5 : decode cX8_latest 5 = .ok (.bipush 9, 2) := by decide +kernel
theorem dX8_latest_7 : decode cX8_latest 7 = .ok (.iaload, 1) := by decide +kernel
theorem dX8_latest_8 : decode cX8_latest 8 = .ok (.invokevirtual 93, 3) := by decide +kernel
theorem dX8_latest_11 : decode cX8_latest 11 = .ok (.ireturn, 1) := by decide +kernel
theorem dX8_enter_0 : decode cX8_enter 0 = .ok (.aload_n 0, 1) := by decide +kernel
theorem dX8_enter_1 : decode cX8_enter 1 = .ok (.iconst 0, 1) := by decide +kernel
theorem dX8_enter_2 : decode cX8_enter 2 = .ok (.putfield 25, 3) := by decide +kernel
theorem dX8_enter_5 : decode cX8_enter 5 = .ok (.iload_n 1, 1) := by decide +kernel
theorem dX8_enter_6 : decode cX8_enter 6 = .ok (.bipush 10, 2) := by decide +kernel
theorem dX8_enter_8 : decode cX8_enter 8 = .ok (.sipush 400, 3) := by decide +kernel
theorem dX8_enter_11 : decode cX8_enter 11 = .ok (.invokestatic 40, 3) := by decide +kernel
theorem dX8_enter_14 : decode cX8_enter 14 = .ok (.ifCond .ne 9, 3) := by decide +kernel
theorem dX8_enter_17 : decode cX8_enter 17 = .ok (.aload_n 0, 1) := by decide +kernel
theorem dX8_enter_18 : decode cX8_enter 18 = .ok (.iconst 1, 1) := by decide +kernel
theorem dX8_enter_19 : decode cX8_enter 19 = .ok (.invokevirtual 44, 3) := by decide +kernel
theorem dX8_enter_22 : decode cX8_enter 22 = .ok (.ireturn, 1) := by decide +kernel
theorem dX8_enter_23 : decode cX8_enter 23 = .ok (.aload_n 0, 1) := by decide +kernel
theorem dX8_enter_24 : decode cX8_enter 24 = .ok (.invokevirtual 96, 3) := by decide +kernel
theorem dX8_enter_27 : decode cX8_enter 27 = .ok (.istore_n 2, 1) := by decide +kernel
theorem dX8_enter_28 : decode cX8_enter 28 = .ok (.iload_n 2, 1) := by decide +kernel
theorem dX8_enter_29 : decode cX8_enter 29 = .ok (.iconst (-1), 1) := by decide +kernel
theorem dX8_enter_30 : decode cX8_enter 30 = .ok (.if_icmp .eq 11, 3) := by decide +kernel
theorem dX8_enter_33 : decode cX8_enter 33 = .ok (.aload_n 0, 1) := by decide +kernel
theorem dX8_enter_34 : decode cX8_enter 34 = .ok (.iload_n 2, 1) := by decide +kernel
theorem dX8_enter_35 : decode cX8_enter 35 = .ok (.invokevirtual 99, 3) := by decide +kernel
theorem dX8_enter_38 : decode cX8_enter 38 = .ok (.ifCond .lt 25, 3) := by decide +kernel
theorem dX8_enter_41 : decode cX8_enter 41 = .ok (.aload_n 0, 1) := by decide +kernel
theorem dX8_enter_42 : decode cX8_enter 42 = .ok (.invokevirtual 54, 3) := by decide +kernel
theorem dX8_enter_45 : decode cX8_enter 45 = .ok (.bipush 20, 2) := by decide +kernel
theorem dX8_enter_47 : decode cX8_enter 47 = .ok (.if_icmp .eq 16, 3) := by decide +kernel
theorem dX8_enter_50 : decode cX8_enter 50 = .ok (.aload_n 0, 1) := by decide +kernel
theorem dX8_enter_51 : decode cX8_enter 51 = .ok (.getfield 7, 3) := by decide +kernel
theorem dX8_enter_54 : decode cX8_enter 54 = .ok (.bipush 9, 2) := by decide +kernel
theorem dX8_enter_56 : decode cX8_enter 56 = .ok (.iaload, 1) := by decide +kernel
theorem dX8_enter_57 : decode cX8_enter 57 = .ok (.sipush 300, 3) := by decide +kernel
theorem dX8_enter_60 : decode cX8_enter 60 = .ok (.if_icmp .ne 9, 3) := by decide +kernel
theorem dX8_enter_63 : decode cX8_enter 63 = .ok (.aload_n 0, 1) := by decide +kernel
theorem dX8_enter_64 : decode cX8_enter 64 = .ok (.iconst 2, 1) := by decide +kernel
theorem dX8_enter_65 : decode cX8_enter 65 = .ok (.invokevirtual 44, 3) := by decide +kernel
theorem dX8_enter_68 : decode cX8_enter 68 = .ok (.ireturn, 1) := by decide +kernel
theorem dX8_enter_69 : decode cX8_enter 69 = .ok (.aload_n 0, 1) := by decide +kernel
theorem dX8_enter_70 : decode cX8_enter 70 = .ok (.invokevirtual 58, 3) := by decide +kernel
theorem dX8_enter_73 : decode cX8_enter 73 = .ok (.aload_n 0, 1) := by decide +kernel
theorem dX8_enter_74 : decode cX8_enter 74 = .ok (.getfield 7, 3) := by decide +kernel
theorem dX8_enter_77 : decode cX8_enter 77 = .ok (.bipush 9, 2) := by decide +kernel
theorem dX8_enter_79 : decode cX8_enter 79 = .ok (.iaload, 1) := by decide +kernel
theorem dX8_enter_80 : decode cX8_enter 80 = .ok (.istore_n 3, 1) := by decide +kernel
theorem dX8_enter_81 : decode cX8_enter 81 = .ok (.aload_n 0, 1) := by decide +kernel
theorem dX8_enter_82 : decode cX8_enter 82 = .ok (.getfield 7, 3) := by decide +kernel
theorem dX8_enter_85 : decode cX8_enter 85 = .ok (.bipush 9, 2) := by decide +kernel
theorem dX8_enter_87 : decode cX8_enter 87 = .ok (.dup2, 1) := by decide +kernel
theorem dX8_enter_88 : decode cX8_enter 88 = .ok (.iaload, 1) := by decide +kernel
theorem dX8_enter_89 : decode cX8_enter 89 = .ok (.iconst 1, 1) := by decide +kernel
theorem dX8_enter_90 : decode cX8_enter 90 = .ok (.iadd, 1) := by decide +kernel
theorem dX8_enter_91 : decode cX8_enter 91 = .ok (.iastore, 1) := by decide +kernel
theorem dX8_enter_92 : decode cX8_enter 92 = .ok (.aload_n 0, 1) := by decide +kernel
theorem dX8_enter_93 : decode cX8_enter 93 = .ok (.getfield 7, 3) := by decide +kernel
theorem dX8_enter_96 : decode cX8_enter 96 = .ok (.sipush 200, 3) := by decide +kernel
theorem dX8_enter_99 : decode cX8_enter 99 = .ok (.iload_n 3, 1) := by decide +kernel
theorem dX8_enter_100 : decode cX8_enter 100 = .ok (.iadd, 1) := by decide +kernel
theorem dX8_enter_101 : decode cX8_enter 101 = .ok (.iload_n 1, 1) := by decide +kernel
theorem dX8_enter_102 : decode cX8_enter 102 = .ok (.iastore, 1) := by decide +kernel
theorem dX8_enter_103 : decode cX8_enter 103 = .ok (.aload_n 0, 1) := by decide +kernel
theorem dX8_enter_104 : decode cX8_enter 104 = .ok (.getfield 7, 3) := by decide +kernel
theorem dX8_enter_107 : decode cX8_enter 107 = .ok (.sipush 500, 3) := by decide +kernel
theorem dX8_enter_110 : decode cX8_enter 110 = .ok (.iload_n 3, 1) := by decide +kernel
theorem dX8_enter_111 : decode cX8_enter 111 = .ok (.iadd, 1) := by decide +kernel
theorem dX8_enter_112 : decode cX8_enter 112 = .ok (.iconst 0, 1) := by decide +kernel
theorem dX8_enter_113 : decode cX8_enter 113 = .ok (.iastore, 1) := by decide +kernel
theorem dX8_enter_114 : decode cX8_enter 114 = .ok (.aload_n 0, 1) := by decide +kernel
theorem dX8_enter_115 : decode cX8_enter 115 = .ok (.getfield 7, 3) := by decide +kernel
theorem dX8_enter_118 : decode cX8_enter 118 = .ok (.sipush 800, 3) := by decide +kernel
theorem dX8_enter_121 : decode cX8_enter 121 = .ok (.iload_n 3, 1) := by decide +kernel
theorem dX8_enter_122 : decode cX8_enter 122 = .ok (.iadd, 1) := by decide +kernel
theorem dX8_enter_123 : decode cX8_enter 123 = .ok (.iconst 0, 1) := by decide +kernel
theorem dX8_enter_124 : decode cX8_enter 124 = .ok (.iastore, 1) := by decide +kernel
theorem dX8_enter_125 : decode cX8_enter 125 = .ok (.aload_n 0, 1) := by decide +kernel
theorem dX8_enter_126 : decode cX8_enter 126 = .ok (.getfield 7, 3) := by decide +kernel
theorem dX8_enter_129 : decode cX8_enter 129 = .ok (.sipush 1100, 3) := by decide +kernel
theorem dX8_enter_132 : decode cX8_enter 132 = .ok (.iload_n 3, 1) := by decide +kernel
theorem dX8_enter_133 : decode cX8_enter 133 = .ok (.iadd, 1) := by decide +kernel
theorem dX8_enter_134 : decode cX8_enter 134 = .ok (.iconst (-1), 1) := by decide +kernel
theorem dX8_enter_135 : decode cX8_enter 135 = .ok (.iastore, 1) := by decide +kernel
theorem dX8_enter_136 : decode cX8_enter 136 = .ok (.aload_n 0, 1) := by decide +kernel
theorem dX8_enter_137 : decode cX8_enter 137 = .ok (.getfield 7, 3) := by decide +kernel
theorem dX8_enter_140 : decode cX8_enter 140 = .ok (.sipush 1400, 3) := by decide +kernel
theorem dX8_enter_143 : decode cX8_enter 143 = .ok (.iload_n 3, 1) := by decide +kernel
theorem dX8_enter_144 : decode cX8_enter 144 = .ok (.iadd, 1) := by decide +kernel
theorem dX8_enter_145 : decode cX8_enter 145 = .ok (.iconst 0, 1) := by decide +kernel
theorem dX8_enter_146 : decode cX8_enter 146 = .ok (.iastore, 1) := by decide +kernel
theorem dX8_enter_147 : decode cX8_enter 147 = .ok (.aload_n 0, 1) := by decide +kernel
theorem dX8_enter_148 : decode cX8_enter 148 = .ok (.getfield 7, 3) := by decide +kernel
theorem dX8_enter_151 : decode cX8_enter 151 = .ok (.sipush 1700, 3) := by decide +kernel
theorem dX8_enter_154 : decode cX8_enter 154 = .ok (.iload_n 3, 1) := by decide +kernel
theorem dX8_enter_155 : decode cX8_enter 155 = .ok (.iadd, 1) := by decide +kernel
theorem dX8_enter_156 : decode cX8_enter 156 = .ok (.iconst 0, 1) := by decide +kernel
theorem dX8_enter_157 : decode cX8_enter 157 = .ok (.iastore, 1) := by decide +kernel
theorem dX8_enter_158 : decode cX8_enter 158 = .ok (.aload_n 0, 1) := by decide +kernel
theorem dX8_enter_159 : decode cX8_enter 159 = .ok (.getfield 7, 3) := by decide +kernel
theorem dX8_enter_162 : decode cX8_enter 162 = .ok (.sipush 2000, 3) := by decide +kernel
theorem dX8_enter_165 : decode cX8_enter 165 = .ok (.iload_n 3, 1) := by decide +kernel
theorem dX8_enter_166 : decode cX8_enter 166 = .ok (.iadd, 1) := by decide +kernel
theorem dX8_enter_167 : decode cX8_enter 167 = .ok (.iconst 0, 1) := by decide +kernel
theorem dX8_enter_168 : decode cX8_enter 168 = .ok (.iastore, 1) := by decide +kernel
theorem dX8_enter_169 : decode cX8_enter 169 = .ok (.aload_n 0, 1) := by decide +kernel
theorem dX8_enter_170 : decode cX8_enter 170 = .ok (.getfield 7, 3) := by decide +kernel
theorem dX8_enter_173 : decode cX8_enter 173 = .ok (.sipush 2300, 3) := by decide +kernel
theorem dX8_enter_176 : decode cX8_enter 176 = .ok (.iload_n 3, 1) := by decide +kernel
theorem dX8_enter_177 : decode cX8_enter 177 = .ok (.iadd, 1) := by decide +kernel
theorem dX8_enter_178 : decode cX8_enter 178 = .ok (.iconst 0, 1) := by decide +kernel
theorem dX8_enter_179 : decode cX8_enter 179 = .ok (.iastore, 1) := by decide +kernel
theorem dX8_enter_180 : decode cX8_enter 180 = .ok (.aload_n 0, 1) := by decide +kernel
theorem dX8_enter_181 : decode cX8_enter 181 = .ok (.getfield 7, 3) := by decide +kernel
theorem dX8_enter_184 : decode cX8_enter 184 = .ok (.sipush 2600, 3) := by decide +kernel
theorem dX8_enter_187 : decode cX8_enter 187 = .ok (.iload_n 3, 1) := by decide +kernel
theorem dX8_enter_188 : decode cX8_enter 188 = .ok (.iadd, 1) := by decide +kernel
theorem dX8_enter_189 : decode cX8_enter 189 = .ok (.iconst 0, 1) := by decide +kernel
theorem dX8_enter_190 : decode cX8_enter 190 = .ok (.iastore, 1) := by decide +kernel
theorem dX8_enter_191 : decode cX8_enter 191 = .ok (.aload_n 0, 1) := by decide +kernel
theorem dX8_enter_192 : decode cX8_enter 192 = .ok (.getfield 7, 3) := by decide +kernel
theorem dX8_enter_195 : decode cX8_enter 195 = .ok (.sipush 2900, 3) := by decide +kernel
theorem dX8_enter_198 : decode cX8_enter 198 = .ok (.iload_n 3, 1) := by decide +kernel
theorem dX8_enter_199 : decode cX8_enter 199 = .ok (.iadd, 1) := by decide +kernel
theorem dX8_enter_200 : decode cX8_enter 200 = .ok (.iconst 0, 1) := by decide +kernel
theorem dX8_enter_201 : decode cX8_enter 201 = .ok (.iastore, 1) := by decide +kernel
theorem dX8_enter_202 : decode cX8_enter 202 = .ok (.iload_n 2, 1) := by decide +kernel
theorem dX8_enter_203 : decode cX8_enter 203 = .ok (.iconst (-1), 1) := by decide +kernel
theorem dX8_enter_204 : decode cX8_enter 204 = .ok (.if_icmp .eq 40, 3) := by decide +kernel
theorem dX8_enter_207 : decode cX8_enter 207 = .ok (.aload_n 0, 1) := by decide +kernel
theorem dX8_enter_208 : decode cX8_enter 208 = .ok (.iload_n 2, 1) := by decide +kernel
theorem dX8_enter_209 : decode cX8_enter 209 = .ok (.invokevirtual 99, 3) := by decide +kernel
theorem dX8_enter_212 : decode cX8_enter 212 = .ok (.aload_n 0, 1) := by decide +kernel
theorem dX8_enter_213 : decode cX8_enter 213 = .ok (.getfield 7, 3) := by decide +kernel
theorem dX8_enter_216 : decode cX8_enter 216 = .ok (.bipush 6, 2) := by decide +kernel
theorem dX8_enter_218 : decode cX8_enter 218 = .ok (.iaload, 1) := by decide +kernel
theorem dX8_enter_219 : decode cX8_enter 219 = .ok (.if_icmp .ge 25, 3) := by decide +kernel
theorem dX8_enter_222 : decode cX8_enter 222 = .ok (.aload_n 0, 1) := by decide +kernel
theorem dX8_enter_223 : decode cX8_enter 223 = .ok (.getfield 7, 3) := by decide +kernel
theorem dX8_enter_226 : decode cX8_enter 226 = .ok (.sipush 1700, 3) := by decide +kernel
theorem dX8_enter_229 : decode cX8_enter 229 = .ok (.iload_n 3, 1) := by decide +kernel
theorem dX8_enter_230 : decode cX8_enter 230 = .ok (.iadd, 1) := by decide +kernel
theorem dX8_enter_231 : decode cX8_enter 231 = .ok (.iconst 1, 1) := by decide +kernel
theorem dX8_enter_232 : decode cX8_enter 232 = .ok (.iastore, 1) := by decide +kernel
theorem dX8_enter_233 : decode cX8_enter 233 = .ok (.aload_n 0, 1) := by decide +kernel
theorem dX8_enter_234 : decode cX8_enter 234 = .ok (.getfield 7, 3) := by decide +kernel
theorem dX8_enter_237 : decode cX8_enter 237 = .ok (.sipush 1700, 3) := by decide +kernel
theorem dX8_enter_240 : decode cX8_enter 240 = .ok (.iload_n 2, 1) := by decide +kernel
theorem dX8_enter_241 : decode cX8_enter 241 = .ok (.iadd, 1) := by decide +kernel
theorem dX8_enter_242 : decode cX8_enter 242 = .ok (.iconst 1, 1) := by decide +kernel
theorem dX8_enter_243 : decode cX8_enter 243 = .ok (.iastore, 1) := by decide +kernel
theorem dX8_enter_244 : decode cX8_enter 244 = .ok (.iload_n 3, 1) := by decide +kernel
theorem dX8_enter_245 : decode cX8_enter 245 = .ok (.ireturn, 1) := by decide +kernel
theorem dX8_caster_0 : decode cX8_caster 0 = .ok (.iconst (-1), 1) := by decide +kernel
theorem dX8_caster_1 : decode cX8_caster 1 = .ok (.istore_n 1, 1) := by decide +kernel
theorem dX8_caster_2 : decode cX8_caster 2 = .ok (.iconst 0, 1) := by decide +kernel
theorem dX8_caster_3 : decode cX8_caster 3 = .ok (.istore_n 2, 1) := by decide +kernel
theorem dX8_caster_4 : decode cX8_caster 4 = .ok (.iload_n 2, 1) := by decide +kernel
theorem dX8_caster_5 : decode cX8_caster 5 = .ok (.aload_n 0, 1) := by decide +kernel
theorem dX8_caster_6 : decode cX8_caster 6 = .ok (.getfield 7, 3) := by decide +kernel
theorem dX8_caster_9 : decode cX8_caster 9 = .ok (.bipush 9, 2) := by decide +kernel
theorem dX8_caster_11 : decode cX8_caster 11 = .ok (.iaload, 1) := by decide +kernel
theorem dX8_caster_12 : decode cX8_caster 12 = .ok (.if_icmp .ge 86, 3) := by decide +kernel
theorem dX8_caster_15 : decode cX8_caster 15 = .ok (.aload_n 0, 1) := by decide +kernel
theorem dX8_caster_16 : decode cX8_caster 16 = .ok (.iload_n 2, 1) := by decide +kernel
theorem dX8_caster_17 : decode cX8_caster 17 = .ok (.invokevirtual 32, 3) := by decide +kernel
theorem dX8_caster_20 : decode cX8_caster 20 = .ok (.ifCond .eq 42, 3) := by decide +kernel
theorem dX8_caster_23 : decode cX8_caster 23 = .ok (.aload_n 0, 1) := by decide +kernel
theorem dX8_caster_24 : decode cX8_caster 24 = .ok (.iload_n 2, 1) := by decide +kernel
theorem dX8_caster_25 : decode cX8_caster 25 = .ok (.invokevirtual 99, 3) := by decide +kernel
theorem dX8_caster_28 : decode cX8_caster 28 = .ok (.aload_n 0, 1) := by decide +kernel
theorem dX8_caster_29 : decode cX8_caster 29 = .ok (.getfield 7, 3) := by decide +kernel
theorem dX8_caster_32 : decode cX8_caster 32 = .ok (.iconst 1, 1) := by decide +kernel
theorem dX8_caster_33 : decode cX8_caster 33 = .ok (.iaload, 1) := by decide +kernel
theorem dX8_caster_34 : decode cX8_caster 34 = .ok (.if_icmp .lt 28, 3) := by decide +kernel
theorem dX8_caster_37 : decode cX8_caster 37 = .ok (.aload_n 0, 1) := by decide +kernel
theorem dX8_caster_38 : decode cX8_caster 38 = .ok (.iload_n 2, 1) := by decide +kernel
theorem dX8_caster_39 : decode cX8_caster 39 = .ok (.invokevirtual 99, 3) := by decide +kernel
theorem dX8_caster_42 : decode cX8_caster 42 = .ok (.aload_n 0, 1) := by decide +kernel
theorem dX8_caster_43 : decode cX8_caster 43 = .ok (.getfield 7, 3) := by decide +kernel
theorem dX8_caster_46 : decode cX8_caster 46 = .ok (.iconst 1, 1) := by decide +kernel
theorem dX8_caster_47 : decode cX8_caster 47 = .ok (.iaload, 1) := by decide +kernel
theorem dX8_caster_48 : decode cX8_caster 48 = .ok (.aload_n 0, 1) := by decide +kernel
theorem dX8_caster_49 : decode cX8_caster 49 = .ok (.getfield 7, 3) := by decide +kernel
theorem dX8_caster_52 : decode cX8_caster 52 = .ok (.iconst 2, 1) := by decide +kernel
theorem dX8_caster_53 : decode cX8_caster 53 = .ok (.iaload, 1) := by decide +kernel
theorem dX8_caster_54 : decode cX8_caster 54 = .ok (.iadd, 1) := by decide +kernel
theorem dX8_caster_55 : decode cX8_caster 55 = .ok (.if_icmp .ge 7, 3) := by decide +kernel
theorem dX8_caster_58 : decode cX8_caster 58 = .ok (.iconst 1, 1) := by decide +kernel
theorem dX8_caster_59 : decode cX8_caster 59 = .ok (.goto 4, 3) := by decide +kernel
theorem dX8_caster_62 : decode cX8_caster 62 = .ok (.iconst 0, 1) := by decide +kernel
theorem dX8_caster_63 : decode cX8_caster 63 = .ok (.istore_n 3, 1) := by decide +kernel
theorem dX8_caster_64 : decode cX8_caster 64 = .ok (.iload_n 3, 1) := by decide +kernel
theorem dX8_caster_65 : decode cX8_caster 65 = .ok (.ifCond .eq 25, 3) := by decide +kernel
theorem dX8_caster_68 : decode cX8_caster 68 = .ok (.iload_n 1, 1) := by decide +kernel
theorem dX8_caster_69 : decode cX8_caster 69 = .ok (.iconst (-1), 1) := by decide +kernel
theorem dX8_caster_70 : decode cX8_caster 70 = .ok (.if_icmp .eq 16, 3) := by decide +kernel
theorem dX8_caster_73 : decode cX8_caster 73 = .ok (.aload_n 0, 1) := by decide +kernel
theorem dX8_caster_74 : decode cX8_caster 74 = .ok (.iload_n 2, 1) := by decide +kernel
theorem dX8_caster_75 : decode cX8_caster 75 = .ok (.invokevirtual 99, 3) := by decide +kernel
theorem dX8_caster_78 : decode cX8_caster 78 = .ok (.aload_n 0, 1) := by decide +kernel
theorem dX8_caster_79 : decode cX8_caster 79 = .ok (.iload_n 1, 1) := by decide +kernel
theorem dX8_caster_80 : decode cX8_caster 80 = .ok (.invokevirtual 99, 3) := by decide +kernel
theorem dX8_caster_83 : decode cX8_caster 83 = .ok (.if_icmp .ge 7, 3) := by decide +kernel
theorem dX8_caster_86 : decode cX8_caster 86 = .ok (.iload_n 2, 1) := by decide +kernel
theorem dX8_caster_87 : decode cX8_caster 87 = .ok (.goto 4, 3) := by decide +kernel
theorem dX8_caster_90 : decode cX8_caster 90 = .ok (.iload_n 1, 1) := by decide +kernel
theorem dX8_caster_91 : decode cX8_caster 91 = .ok (.istore_n 1, 1) := by decide +kernel
theorem dX8_caster_92 : decode cX8_caster 92 = .ok (.iinc 2 1, 3) := by decide +kernel
theorem dX8_caster_95 : decode cX8_caster 95 = .ok (.goto (-91), 3) := by decide +kernel
theorem dX8_caster_98 : decode cX8_caster 98 = .ok (.iload_n 1, 1) := by decide +kernel
theorem dX8_caster_99 : decode cX8_caster 99 = .ok (.ireturn, 1) := by decide +kernel
theorem dX8_atScanner_0 : decode cX8_atScanner 0 = .ok (.iconst (-1), 1) := by decide +kernel
theorem dX8_atScanner_1 : decode cX8_atScanner 1 = .ok (.istore_n 1, 1) := by decide +kernel
theorem dX8_atScanner_2 : decode cX8_atScanner 2 = .ok (.iconst 0, 1) := by decide +kernel
theorem dX8_atScanner_3 : decode cX8_atScanner 3 = .ok (.istore_n 2, 1) := by decide +kernel
theorem dX8_atScanner_4 : decode cX8_atScanner 4 = .ok (.iload_n 2, 1) := by decide +kernel
theorem dX8_atScanner_5 : decode cX8_atScanner 5 = .ok (.aload_n 0, 1) := by decide +kernel
theorem dX8_atScanner_6 : decode cX8_atScanner 6 = .ok (.getfield 7, 3) := by decide +kernel
theorem dX8_atScanner_9 : decode cX8_atScanner 9 = .ok (.bipush 9, 2) := by decide +kernel
theorem dX8_atScanner_11 : decode cX8_atScanner 11 = .ok (.iaload, 1) := by decide +kernel
theorem dX8_atScanner_12 : decode cX8_atScanner 12 = .ok (.if_icmp .ge 56, 3) := by decide +kernel
theorem dX8_atScanner_15 : decode cX8_atScanner 15 = .ok (.aload_n 0, 1) := by decide +kernel
theorem dX8_atScanner_16 : decode cX8_atScanner 16 = .ok (.iload_n 2, 1) := by decide +kernel
theorem dX8_atScanner_17 : decode cX8_atScanner 17 = .ok (.invokevirtual 32, 3) := by decide +kernel
theorem dX8_atScanner_20 : decode cX8_atScanner 20 = .ok (.ifCond .eq 40, 3) := by decide +kernel
theorem dX8_atScanner_23 : decode cX8_atScanner 23 = .ok (.aload_n 0, 1) := by decide +kernel
theorem dX8_atScanner_24 : decode cX8_atScanner 24 = .ok (.iload_n 2, 1) := by decide +kernel
theorem dX8_atScanner_25 : decode cX8_atScanner 25 = .ok (.invokevirtual 99, 3) := by decide +kernel
theorem dX8_atScanner_28 : decode cX8_atScanner 28 = .ok (.aload_n 0, 1) := by decide +kernel
theorem dX8_atScanner_29 : decode cX8_atScanner 29 = .ok (.getfield 7, 3) := by decide +kernel
theorem dX8_atScanner_32 : decode cX8_atScanner 32 = .ok (.iconst 1, 1) := by decide +kernel
theorem dX8_atScanner_33 : decode cX8_atScanner 33 = .ok (.iaload, 1) := by decide +kernel
theorem dX8_atScanner_34 : decode cX8_atScanner 34 = .ok (.if_icmp .ge 26, 3) := by decide +kernel
theorem dX8_atScanner_37 : decode cX8_atScanner 37 = .ok (.aload_n 0, 1) := by decide +kernel
theorem dX8_atScanner_38 : decode cX8_atScanner 38 = .ok (.getfield 7, 3) := by decide +kernel
theorem dX8_atScanner_41 : decode cX8_atScanner 41 = .ok (.sipush 500, 3) := by decide +kernel
theorem dX8_atScanner_44 : decode cX8_atScanner 44 = .ok (.iload_n 2, 1) := by decide +kernel
theorem dX8_atScanner_45 : decode cX8_atScanner 45 = .ok (.iadd, 1) := by decide +kernel
theorem dX8_atScanner_46 : decode cX8_atScanner 46 = .ok (.iaload, 1) := by decide +kernel
theorem dX8_atScanner_47 : decode cX8_atScanner 47 = .ok (.aload_n 0, 1) := by decide +kernel
theorem dX8_atScanner_48 : decode cX8_atScanner 48 = .ok (.getfield 7, 3) := by decide +kernel
theorem dX8_atScanner_51 : decode cX8_atScanner 51 = .ok (.iconst 1, 1) := by decide +kernel
theorem dX8_atScanner_52 : decode cX8_atScanner 52 = .ok (.iaload, 1) := by decide +kernel
theorem dX8_atScanner_53 : decode cX8_atScanner 53 = .ok (.if_icmp .lt 7, 3) := by decide +kernel
theorem dX8_atScanner_56 : decode cX8_atScanner 56 = .ok (.iload_n 2, 1) := by decide +kernel
theorem dX8_atScanner_57 : decode cX8_atScanner 57 = .ok (.goto 4, 3) := by decide +kernel
theorem dX8_atScanner_60 : decode cX8_atScanner 60 = .ok (.iload_n 1, 1) := by decide +kernel
theorem dX8_atScanner_61 : decode cX8_atScanner 61 = .ok (.istore_n 1, 1) := by decide +kernel
theorem dX8_atScanner_62 : decode cX8_atScanner 62 = .ok (.iinc 2 1, 3) := by decide +kernel
theorem dX8_atScanner_65 : decode cX8_atScanner 65 = .ok (.goto (-61), 3) := by decide +kernel
theorem dX8_atScanner_68 : decode cX8_atScanner 68 = .ok (.iload_n 1, 1) := by decide +kernel
theorem dX8_atScanner_69 : decode cX8_atScanner 69 = .ok (.ireturn, 1) := by decide +kernel
theorem dX8_readFor_0 : decode cX8_readFor 0 = .ok (.aload_n 0, 1) := by decide +kernel
theorem dX8_readFor_1 : decode cX8_readFor 1 = .ok (.getfield 7, 3) := by decide +kernel
theorem dX8_readFor_4 : decode cX8_readFor 4 = .ok (.sipush 1100, 3) := by decide +kernel
theorem dX8_readFor_7 : decode cX8_readFor 7 = .ok (.iload_n 1, 1) := by decide +kernel
theorem dX8_readFor_8 : decode cX8_readFor 8 = .ok (.iadd, 1) := by decide +kernel
theorem dX8_readFor_9 : decode cX8_readFor 9 = .ok (.iaload, 1) := by decide +kernel
theorem dX8_readFor_10 : decode cX8_readFor 10 = .ok (.iconst (-1), 1) := by decide +kernel
theorem dX8_readFor_11 : decode cX8_readFor 11 = .ok (.if_icmp .ne 33, 3) := by decide +kernel
theorem dX8_readFor_14 : decode cX8_readFor 14 = .ok (.aload_n 0, 1) := by decide +kernel
theorem dX8_readFor_15 : decode cX8_readFor 15 = .ok (.getfield 7, 3) := by decide +kernel
theorem dX8_readFor_18 : decode cX8_readFor 18 = .ok (.sipush 1100, 3) := by decide +kernel
theorem dX8_readFor_21 : decode cX8_readFor 21 = .ok (.iload_n 1, 1) := by decide +kernel
theorem dX8_readFor_22 : decode cX8_readFor 22 = .ok (.iadd, 1) := by decide +kernel
theorem dX8_readFor_23 : decode cX8_readFor 23 = .ok (.iload_n 2, 1) := by decide +kernel
theorem dX8_readFor_24 : decode cX8_readFor 24 = .ok (.iastore, 1) := by decide +kernel
theorem dX8_readFor_25 : decode cX8_readFor 25 = .ok (.aload_n 0, 1) := by decide +kernel
theorem dX8_readFor_26 : decode cX8_readFor 26 = .ok (.getfield 7, 3) := by decide +kernel
theorem dX8_readFor_29 : decode cX8_readFor 29 = .ok (.sipush 2900, 3) := by decide +kernel
theorem dX8_readFor_32 : decode cX8_readFor 32 = .ok (.iload_n 1, 1) := by decide +kernel
theorem dX8_readFor_33 : decode cX8_readFor 33 = .ok (.iadd, 1) := by decide +kernel
theorem dX8_readFor_34 : decode cX8_readFor 34 = .ok (.aload_n 0, 1) := by decide +kernel
theorem dX8_readFor_35 : decode cX8_readFor 35 = .ok (.getfield 7, 3) := by decide +kernel
theorem dX8_readFor_38 : decode cX8_readFor 38 = .ok (.iconst 0, 1) := by decide +kernel
theorem dX8_readFor_39 : decode cX8_readFor 39 = .ok (.iaload, 1) := by decide +kernel
theorem dX8_readFor_40 : decode cX8_readFor 40 = .ok (.iastore, 1) := by decide +kernel
theorem dX8_readFor_41 : decode cX8_readFor 41 = .ok (.goto 120, 3) := by decide +kernel
theorem dX8_readFor_44 : decode cX8_readFor 44 = .ok (.aload_n 0, 1) := by decide +kernel
theorem dX8_readFor_45 : decode cX8_readFor 45 = .ok (.getfield 7, 3) := by decide +kernel
theorem dX8_readFor_48 : decode cX8_readFor 48 = .ok (.sipush 1100, 3) := by decide +kernel
theorem dX8_readFor_51 : decode cX8_readFor 51 = .ok (.iload_n 1, 1) := by decide +kernel
theorem dX8_readFor_52 : decode cX8_readFor 52 = .ok (.iadd, 1) := by decide +kernel
theorem dX8_readFor_53 : decode cX8_readFor 53 = .ok (.iaload, 1) := by decide +kernel
theorem dX8_readFor_54 : decode cX8_readFor 54 = .ok (.iload_n 2, 1) := by decide +kernel
theorem dX8_readFor_55 : decode cX8_readFor 55 = .ok (.if_icmp .eq 33, 3) := by decide +kernel
theorem dX8_readFor_58 : decode cX8_readFor 58 = .ok (.aload_n 0, 1) := by decide +kernel
theorem dX8_readFor_59 : decode cX8_readFor 59 = .ok (.getfield 7, 3) := by decide +kernel
theorem dX8_readFor_62 : decode cX8_readFor 62 = .ok (.sipush 1400, 3) := by decide +kernel
theorem dX8_readFor_65 : decode cX8_readFor 65 = .ok (.iload_n 1, 1) := by decide +kernel
theorem dX8_readFor_66 : decode cX8_readFor 66 = .ok (.iadd, 1) := by decide +kernel
theorem dX8_readFor_67 : decode cX8_readFor 67 = .ok (.iconst 1, 1) := by decide +kernel
theorem dX8_readFor_68 : decode cX8_readFor 68 = .ok (.iastore, 1) := by decide +kernel
theorem dX8_readFor_69 : decode cX8_readFor 69 = .ok (.aload_n 0, 1) := by decide +kernel
theorem dX8_readFor_70 : decode cX8_readFor 70 = .ok (.getfield 7, 3) := by decide +kernel
theorem dX8_readFor_73 : decode cX8_readFor 73 = .ok (.sipush 2900, 3) := by decide +kernel
theorem dX8_readFor_76 : decode cX8_readFor 76 = .ok (.iload_n 1, 1) := by decide +kernel
theorem dX8_readFor_77 : decode cX8_readFor 77 = .ok (.iadd, 1) := by decide +kernel
theorem dX8_readFor_78 : decode cX8_readFor 78 = .ok (.aload_n 0, 1) := by decide +kernel
theorem dX8_readFor_79 : decode cX8_readFor 79 = .ok (.getfield 7, 3) := by decide +kernel
theorem dX8_readFor_82 : decode cX8_readFor 82 = .ok (.iconst 0, 1) := by decide +kernel
theorem dX8_readFor_83 : decode cX8_readFor 83 = .ok (.iaload, 1) := by decide +kernel
theorem dX8_readFor_84 : decode cX8_readFor 84 = .ok (.iastore, 1) := by decide +kernel
theorem dX8_readFor_85 : decode cX8_readFor 85 = .ok (.goto 76, 3) := by decide +kernel
theorem dX8_readFor_88 : decode cX8_readFor 88 = .ok (.aload_n 0, 1) := by decide +kernel
theorem dX8_readFor_89 : decode cX8_readFor 89 = .ok (.getfield 7, 3) := by decide +kernel
theorem dX8_readFor_92 : decode cX8_readFor 92 = .ok (.iconst 0, 1) := by decide +kernel
theorem dX8_readFor_93 : decode cX8_readFor 93 = .ok (.iaload, 1) := by decide +kernel
theorem dX8_readFor_94 : decode cX8_readFor 94 = .ok (.aload_n 0, 1) := by decide +kernel
theorem dX8_readFor_95 : decode cX8_readFor 95 = .ok (.getfield 7, 3) := by decide +kernel
theorem dX8_readFor_98 : decode cX8_readFor 98 = .ok (.sipush 2900, 3) := by decide +kernel
theorem dX8_readFor_101 : decode cX8_readFor 101 = .ok (.iload_n 1, 1) := by decide +kernel
theorem dX8_readFor_102 : decode cX8_readFor 102 = .ok (.iadd, 1) := by decide +kernel
theorem dX8_readFor_103 : decode cX8_readFor 103 = .ok (.iaload, 1) := by decide +kernel
theorem dX8_readFor_104 : decode cX8_readFor 104 = .ok (.isub, 1) := by decide +kernel
theorem dX8_readFor_105 : decode cX8_readFor 105 = .ok (.aload_n 0, 1) := by decide +kernel
theorem dX8_readFor_106 : decode cX8_readFor 106 = .ok (.getfield 7, 3) := by decide +kernel
theorem dX8_readFor_109 : decode cX8_readFor 109 = .ok (.iconst 3, 1) := by decide +kernel
theorem dX8_readFor_110 : decode cX8_readFor 110 = .ok (.iaload, 1) := by decide +kernel
theorem dX8_readFor_111 : decode cX8_readFor 111 = .ok (.if_icmp .gt 20, 3) := by decide +kernel
theorem dX8_readFor_114 : decode cX8_readFor 114 = .ok (.aload_n 0, 1) := by decide +kernel
theorem dX8_readFor_115 : decode cX8_readFor 115 = .ok (.getfield 7, 3) := by decide +kernel
theorem dX8_readFor_118 : decode cX8_readFor 118 = .ok (.sipush 2300, 3) := by decide +kernel
theorem dX8_readFor_121 : decode cX8_readFor 121 = .ok (.iload_n 1, 1) := by decide +kernel
theorem dX8_readFor_122 : decode cX8_readFor 122 = .ok (.iadd, 1) := by decide +kernel
theorem dX8_readFor_123 : decode cX8_readFor 123 = .ok (.dup2, 1) := by decide +kernel
theorem dX8_readFor_124 : decode cX8_readFor 124 = .ok (.iaload, 1) := by decide +kernel
theorem dX8_readFor_125 : decode cX8_readFor 125 = .ok (.iconst 1, 1) := by decide +kernel
theorem dX8_readFor_126 : decode cX8_readFor 126 = .ok (.iadd, 1) := by decide +kernel
theorem dX8_readFor_127 : decode cX8_readFor 127 = .ok (.iastore, 1) := by decide +kernel
theorem dX8_readFor_128 : decode cX8_readFor 128 = .ok (.goto 33, 3) := by decide +kernel
theorem dX8_readFor_131 : decode cX8_readFor 131 = .ok (.aload_n 0, 1) := by decide +kernel
theorem dX8_readFor_132 : decode cX8_readFor 132 = .ok (.getfield 7, 3) := by decide +kernel
theorem dX8_readFor_135 : decode cX8_readFor 135 = .ok (.sipush 2000, 3) := by decide +kernel
theorem dX8_readFor_138 : decode cX8_readFor 138 = .ok (.iload_n 1, 1) := by decide +kernel
theorem dX8_readFor_139 : decode cX8_readFor 139 = .ok (.iadd, 1) := by decide +kernel
theorem dX8_readFor_140 : decode cX8_readFor 140 = .ok (.dup2, 1) := by decide +kernel
theorem dX8_readFor_141 : decode cX8_readFor 141 = .ok (.iaload, 1) := by decide +kernel
theorem dX8_readFor_142 : decode cX8_readFor 142 = .ok (.iconst 1, 1) := by decide +kernel
theorem dX8_readFor_143 : decode cX8_readFor 143 = .ok (.iadd, 1) := by decide +kernel
theorem dX8_readFor_144 : decode cX8_readFor 144 = .ok (.iastore, 1) := by decide +kernel
theorem dX8_readFor_145 : decode cX8_readFor 145 = .ok (.aload_n 0, 1) := by decide +kernel
theorem dX8_readFor_146 : decode cX8_readFor 146 = .ok (.getfield 7, 3) := by decide +kernel
theorem dX8_readFor_149 : decode cX8_readFor 149 = .ok (.sipush 2900, 3) := by decide +kernel
theorem dX8_readFor_152 : decode cX8_readFor 152 = .ok (.iload_n 1, 1) := by decide +kernel
theorem dX8_readFor_153 : decode cX8_readFor 153 = .ok (.iadd, 1) := by decide +kernel
theorem dX8_readFor_154 : decode cX8_readFor 154 = .ok (.aload_n 0, 1) := by decide +kernel
theorem dX8_readFor_155 : decode cX8_readFor 155 = .ok (.getfield 7, 3) := by decide +kernel
theorem dX8_readFor_158 : decode cX8_readFor 158 = .ok (.iconst 0, 1) := by decide +kernel
theorem dX8_readFor_159 : decode cX8_readFor 159 = .ok (.iaload, 1) := by decide +kernel
theorem dX8_readFor_160 : decode cX8_readFor 160 = .ok (.iastore, 1) := by decide +kernel
theorem dX8_readFor_161 : decode cX8_readFor 161 = .ok (.return_, 1) := by decide +kernel
theorem dX8_read_0 : decode cX8_read 0 = .ok (.aload_n 0, 1) := by decide +kernel
theorem dX8_read_1 : decode cX8_read 1 = .ok (.iconst 0, 1) := by decide +kernel
theorem dX8_read_2 : decode cX8_read 2 = .ok (.putfield 25, 3) := by decide +kernel
theorem dX8_read_5 : decode cX8_read 5 = .ok (.iload_n 1, 1) := by decide +kernel
theorem dX8_read_6 : decode cX8_read 6 = .ok (.invokestatic 67, 3) := by decide +kernel
theorem dX8_read_9 : decode cX8_read 9 = .ok (.ifCond .ne 9, 3) := by decide +kernel
theorem dX8_read_12 : decode cX8_read 12 = .ok (.aload_n 0, 1) := by decide +kernel
theorem dX8_read_13 : decode cX8_read 13 = .ok (.iconst 1, 1) := by decide +kernel
theorem dX8_read_14 : decode cX8_read 14 = .ok (.invokevirtual 44, 3) := by decide +kernel
theorem dX8_read_17 : decode cX8_read 17 = .ok (.ireturn, 1) := by decide +kernel
theorem dX8_read_18 : decode cX8_read 18 = .ok (.aload_n 0, 1) := by decide +kernel
theorem dX8_read_19 : decode cX8_read 19 = .ok (.invokevirtual 58, 3) := by decide +kernel
theorem dX8_read_22 : decode cX8_read 22 = .ok (.aload_n 0, 1) := by decide +kernel
theorem dX8_read_23 : decode cX8_read 23 = .ok (.invokevirtual 102, 3) := by decide +kernel
theorem dX8_read_26 : decode cX8_read 26 = .ok (.istore_n 2, 1) := by decide +kernel
theorem dX8_read_27 : decode cX8_read 27 = .ok (.aload_n 0, 1) := by decide +kernel
theorem dX8_read_28 : decode cX8_read 28 = .ok (.invokevirtual 105, 3) := by decide +kernel
theorem dX8_read_31 : decode cX8_read 31 = .ok (.istore_n 3, 1) := by decide +kernel
theorem dX8_read_32 : decode cX8_read 32 = .ok (.iload_n 2, 1) := by decide +kernel
theorem dX8_read_33 : decode cX8_read 33 = .ok (.iconst (-1), 1) := by decide +kernel
theorem dX8_read_34 : decode cX8_read 34 = .ok (.if_icmp .eq 26, 3) := by decide +kernel
theorem dX8_read_37 : decode cX8_read 37 = .ok (.aload_n 0, 1) := by decide +kernel
theorem dX8_read_38 : decode cX8_read 38 = .ok (.getfield 7, 3) := by decide +kernel
theorem dX8_read_41 : decode cX8_read 41 = .ok (.sipush 1100, 3) := by decide +kernel
theorem dX8_read_44 : decode cX8_read 44 = .ok (.iload_n 2, 1) := by decide +kernel
theorem dX8_read_45 : decode cX8_read 45 = .ok (.iadd, 1) := by decide +kernel
theorem dX8_read_46 : decode cX8_read 46 = .ok (.iaload, 1) := by decide +kernel
theorem dX8_read_47 : decode cX8_read 47 = .ok (.iconst (-1), 1) := by decide +kernel
theorem dX8_read_48 : decode cX8_read 48 = .ok (.if_icmp .eq 8, 3) := by decide +kernel
theorem dX8_read_51 : decode cX8_read 51 = .ok (.iload_n 3, 1) := by decide +kernel
theorem dX8_read_52 : decode cX8_read 52 = .ok (.iconst (-1), 1) := by decide +kernel
theorem dX8_read_53 : decode cX8_read 53 = .ok (.if_icmp .ne 7, 3) := by decide +kernel
theorem dX8_read_56 : decode cX8_read 56 = .ok (.iload_n 2, 1) := by decide +kernel
theorem dX8_read_57 : decode cX8_read 57 = .ok (.goto 4, 3) := by decide +kernel
theorem dX8_read_60 : decode cX8_read 60 = .ok (.iload_n 3, 1) := by decide +kernel
theorem dX8_read_61 : decode cX8_read 61 = .ok (.istore 4, 2) := by decide +kernel
theorem dX8_read_63 : decode cX8_read 63 = .ok (.iload 4, 2) := by decide +kernel
theorem dX8_read_65 : decode cX8_read 65 = .ok (.iconst (-1), 1) := by decide +kernel
theorem dX8_read_66 : decode cX8_read 66 = .ok (.if_icmp .ne 17, 3) := by decide +kernel
theorem dX8_read_69 : decode cX8_read 69 = .ok (.aload_n 0, 1) := by decide +kernel
theorem dX8_read_70 : decode cX8_read 70 = .ok (.getfield 7, 3) := by decide +kernel
theorem dX8_read_73 : decode cX8_read 73 = .ok (.bipush 10, 2) := by decide +kernel
theorem dX8_read_75 : decode cX8_read 75 = .ok (.dup2, 1) := by decide +kernel
theorem dX8_read_76 : decode cX8_read 76 = .ok (.iaload, 1) := by decide +kernel
theorem dX8_read_77 : decode cX8_read 77 = .ok (.iconst 1, 1) := by decide +kernel
theorem dX8_read_78 : decode cX8_read 78 = .ok (.iadd, 1) := by decide +kernel
theorem dX8_read_79 : decode cX8_read 79 = .ok (.iastore, 1) := by decide +kernel
theorem dX8_read_80 : decode cX8_read 80 = .ok (.goto 10, 3) := by decide +kernel
theorem dX8_read_83 : decode cX8_read 83 = .ok (.aload_n 0, 1) := by decide +kernel
theorem dX8_read_84 : decode cX8_read 84 = .ok (.iload 4, 2) := by decide +kernel
theorem dX8_read_86 : decode cX8_read 86 = .ok (.iload_n 1, 1) := by decide +kernel
theorem dX8_read_87 : decode cX8_read 87 = .ok (.invokevirtual 108, 3) := by decide +kernel
theorem dX8_read_90 : decode cX8_read 90 = .ok (.iload 4, 2) := by decide +kernel
theorem dX8_read_92 : decode cX8_read 92 = .ok (.ireturn, 1) := by decide +kernel
theorem dX8_attempt_0 : decode cX8_attempt 0 = .ok (.aload_n 0, 1) := by decide +kernel
theorem dX8_attempt_1 : decode cX8_attempt 1 = .ok (.iload_n 1, 1) := by decide +kernel
theorem dX8_attempt_2 : decode cX8_attempt 2 = .ok (.invokevirtual 93, 3) := by decide +kernel
theorem dX8_attempt_5 : decode cX8_attempt 5 = .ok (.istore_n 3, 1) := by decide +kernel
theorem dX8_attempt_6 : decode cX8_attempt 6 = .ok (.aload_n 0, 1) := by decide +kernel
theorem dX8_attempt_7 : decode cX8_attempt 7 = .ok (.iload_n 1, 1) := by decide +kernel
theorem dX8_attempt_8 : decode cX8_attempt 8 = .ok (.invokevirtual 112, 3) := by decide +kernel
theorem dX8_attempt_11 : decode cX8_attempt 11 = .ok (.istore 4, 2) := by decide +kernel
theorem dX8_attempt_13 : decode cX8_attempt 13 = .ok (.iload_n 3, 1) := by decide +kernel
theorem dX8_attempt_14 : decode cX8_attempt 14 = .ok (.iconst (-1), 1) := by decide +kernel
theorem dX8_attempt_15 : decode cX8_attempt 15 = .ok (.if_icmp .eq 28, 3) := by decide +kernel
theorem dX8_attempt_18 : decode cX8_attempt 18 = .ok (.aload_n 0, 1) := by decide +kernel
theorem dX8_attempt_19 : decode cX8_attempt 19 = .ok (.iload_n 3, 1) := by decide +kernel
theorem dX8_attempt_20 : decode cX8_attempt 20 = .ok (.invokevirtual 99, 3) := by decide +kernel
theorem dX8_attempt_23 : decode cX8_attempt 23 = .ok (.aload_n 0, 1) := by decide +kernel
theorem dX8_attempt_24 : decode cX8_attempt 24 = .ok (.getfield 7, 3) := by decide +kernel
theorem dX8_attempt_27 : decode cX8_attempt 27 = .ok (.sipush 500, 3) := by decide +kernel
theorem dX8_attempt_30 : decode cX8_attempt 30 = .ok (.iload_n 1, 1) := by decide +kernel
theorem dX8_attempt_31 : decode cX8_attempt 31 = .ok (.iadd, 1) := by decide +kernel
theorem dX8_attempt_32 : decode cX8_attempt 32 = .ok (.iaload, 1) := by decide +kernel
theorem dX8_attempt_33 : decode cX8_attempt 33 = .ok (.isub, 1) := by decide +kernel
theorem dX8_attempt_34 : decode cX8_attempt 34 = .ok (.aload_n 0, 1) := by decide +kernel
theorem dX8_attempt_35 : decode cX8_attempt 35 = .ok (.getfield 7, 3) := by decide +kernel
theorem dX8_attempt_38 : decode cX8_attempt 38 = .ok (.iconst 4, 1) := by decide +kernel
theorem dX8_attempt_39 : decode cX8_attempt 39 = .ok (.iaload, 1) := by decide +kernel
theorem dX8_attempt_40 : decode cX8_attempt 40 = .ok (.if_icmp .lt 45, 3) := by decide +kernel
theorem dX8_attempt_43 : decode cX8_attempt 43 = .ok (.iload 4, 2) := by decide +kernel
theorem dX8_attempt_45 : decode cX8_attempt 45 = .ok (.aload_n 0, 1) := by decide +kernel
theorem dX8_attempt_46 : decode cX8_attempt 46 = .ok (.getfield 7, 3) := by decide +kernel
theorem dX8_attempt_49 : decode cX8_attempt 49 = .ok (.bipush 9, 2) := by decide +kernel
theorem dX8_attempt_51 : decode cX8_attempt 51 = .ok (.iaload, 1) := by decide +kernel
theorem dX8_attempt_52 : decode cX8_attempt 52 = .ok (.if_icmp .eq 29, 3) := by decide +kernel
theorem dX8_attempt_55 : decode cX8_attempt 55 = .ok (.aload_n 0, 1) := by decide +kernel
theorem dX8_attempt_56 : decode cX8_attempt 56 = .ok (.iload_n 1, 1) := by decide +kernel
theorem dX8_attempt_57 : decode cX8_attempt 57 = .ok (.invokevirtual 99, 3) := by decide +kernel
theorem dX8_attempt_60 : decode cX8_attempt 60 = .ok (.aload_n 0, 1) := by decide +kernel
theorem dX8_attempt_61 : decode cX8_attempt 61 = .ok (.getfield 7, 3) := by decide +kernel
theorem dX8_attempt_64 : decode cX8_attempt 64 = .ok (.sipush 500, 3) := by decide +kernel
theorem dX8_attempt_67 : decode cX8_attempt 67 = .ok (.iload 4, 2) := by decide +kernel
theorem dX8_attempt_69 : decode cX8_attempt 69 = .ok (.iadd, 1) := by decide +kernel
theorem dX8_attempt_70 : decode cX8_attempt 70 = .ok (.iaload, 1) := by decide +kernel
theorem dX8_attempt_71 : decode cX8_attempt 71 = .ok (.isub, 1) := by decide +kernel
theorem dX8_attempt_72 : decode cX8_attempt 72 = .ok (.aload_n 0, 1) := by decide +kernel
theorem dX8_attempt_73 : decode cX8_attempt 73 = .ok (.getfield 7, 3) := by decide +kernel
theorem dX8_attempt_76 : decode cX8_attempt 76 = .ok (.iconst 4, 1) := by decide +kernel
theorem dX8_attempt_77 : decode cX8_attempt 77 = .ok (.iaload, 1) := by decide +kernel
theorem dX8_attempt_78 : decode cX8_attempt 78 = .ok (.if_icmp .lt 7, 3) := by decide +kernel
theorem dX8_attempt_81 : decode cX8_attempt 81 = .ok (.iconst 1, 1) := by decide +kernel
theorem dX8_attempt_82 : decode cX8_attempt 82 = .ok (.goto 4, 3) := by decide +kernel
theorem dX8_attempt_85 : decode cX8_attempt 85 = .ok (.iconst 0, 1) := by decide +kernel
theorem dX8_attempt_86 : decode cX8_attempt 86 = .ok (.istore 5, 2) := by decide +kernel
theorem dX8_attempt_88 : decode cX8_attempt 88 = .ok (.iload 5, 2) := by decide +kernel
theorem dX8_attempt_90 : decode cX8_attempt 90 = .ok (.ifCond .eq 67, 3) := by decide +kernel
theorem dX8_attempt_93 : decode cX8_attempt 93 = .ok (.aload_n 0, 1) := by decide +kernel
theorem dX8_attempt_94 : decode cX8_attempt 94 = .ok (.getfield 7, 3) := by decide +kernel
theorem dX8_attempt_97 : decode cX8_attempt 97 = .ok (.bipush 34, 2) := by decide +kernel
theorem dX8_attempt_99 : decode cX8_attempt 99 = .ok (.iload_n 2, 1) := by decide +kernel
theorem dX8_attempt_100 : decode cX8_attempt 100 = .ok (.iadd, 1) := by decide +kernel
theorem dX8_attempt_101 : decode cX8_attempt 101 = .ok (.iaload, 1) := by decide +kernel
theorem dX8_attempt_102 : decode cX8_attempt 102 = .ok (.aload_n 0, 1) := by decide +kernel
theorem dX8_attempt_103 : decode cX8_attempt 103 = .ok (.getfield 7, 3) := by decide +kernel
theorem dX8_attempt_106 : decode cX8_attempt 106 = .ok (.bipush 28, 2) := by decide +kernel
theorem dX8_attempt_108 : decode cX8_attempt 108 = .ok (.iload_n 2, 1) := by decide +kernel
theorem dX8_attempt_109 : decode cX8_attempt 109 = .ok (.iadd, 1) := by decide +kernel
theorem dX8_attempt_110 : decode cX8_attempt 110 = .ok (.iaload, 1) := by decide +kernel
theorem dX8_attempt_111 : decode cX8_attempt 111 = .ok (.if_icmp .ge 46, 3) := by decide +kernel
theorem dX8_attempt_114 : decode cX8_attempt 114 = .ok (.aload_n 0, 1) := by decide +kernel
theorem dX8_attempt_115 : decode cX8_attempt 115 = .ok (.getfield 7, 3) := by decide +kernel
theorem dX8_attempt_118 : decode cX8_attempt 118 = .ok (.sipush 800, 3) := by decide +kernel
theorem dX8_attempt_121 : decode cX8_attempt 121 = .ok (.iload_n 1, 1) := by decide +kernel
theorem dX8_attempt_122 : decode cX8_attempt 122 = .ok (.iadd, 1) := by decide +kernel
theorem dX8_attempt_123 : decode cX8_attempt 123 = .ok (.bipush 10, 2) := by decide +kernel
theorem dX8_attempt_125 : decode cX8_attempt 125 = .ok (.iload_n 2, 1) := by decide +kernel
theorem dX8_attempt_126 : decode cX8_attempt 126 = .ok (.iadd, 1) := by decide +kernel
theorem dX8_attempt_127 : decode cX8_attempt 127 = .ok (.iastore, 1) := by decide +kernel
theorem dX8_attempt_128 : decode cX8_attempt 128 = .ok (.aload_n 0, 1) := by decide +kernel
theorem dX8_attempt_129 : decode cX8_attempt 129 = .ok (.getfield 7, 3) := by decide +kernel
theorem dX8_attempt_132 : decode cX8_attempt 132 = .ok (.bipush 34, 2) := by decide +kernel
theorem dX8_attempt_134 : decode cX8_attempt 134 = .ok (.iload_n 2, 1) := by decide +kernel
theorem dX8_attempt_135 : decode cX8_attempt 135 = .ok (.iadd, 1) := by decide +kernel
theorem dX8_attempt_136 : decode cX8_attempt 136 = .ok (.dup2, 1) := by decide +kernel
theorem dX8_attempt_137 : decode cX8_attempt 137 = .ok (.iaload, 1) := by decide +kernel
theorem dX8_attempt_138 : decode cX8_attempt 138 = .ok (.iconst 1, 1) := by decide +kernel
theorem dX8_attempt_139 : decode cX8_attempt 139 = .ok (.iadd, 1) := by decide +kernel
theorem dX8_attempt_140 : decode cX8_attempt 140 = .ok (.iastore, 1) := by decide +kernel
theorem dX8_attempt_141 : decode cX8_attempt 141 = .ok (.aload_n 0, 1) := by decide +kernel
theorem dX8_attempt_142 : decode cX8_attempt 142 = .ok (.getfield 7, 3) := by decide +kernel
theorem dX8_attempt_145 : decode cX8_attempt 145 = .ok (.bipush 40, 2) := by decide +kernel
theorem dX8_attempt_147 : decode cX8_attempt 147 = .ok (.iload_n 2, 1) := by decide +kernel
theorem dX8_attempt_148 : decode cX8_attempt 148 = .ok (.iadd, 1) := by decide +kernel
theorem dX8_attempt_149 : decode cX8_attempt 149 = .ok (.dup2, 1) := by decide +kernel
theorem dX8_attempt_150 : decode cX8_attempt 150 = .ok (.iaload, 1) := by decide +kernel
theorem dX8_attempt_151 : decode cX8_attempt 151 = .ok (.iconst 1, 1) := by decide +kernel
theorem dX8_attempt_152 : decode cX8_attempt 152 = .ok (.iadd, 1) := by decide +kernel
theorem dX8_attempt_153 : decode cX8_attempt 153 = .ok (.iastore, 1) := by decide +kernel
theorem dX8_attempt_154 : decode cX8_attempt 154 = .ok (.goto 24, 3) := by decide +kernel
theorem dX8_attempt_157 : decode cX8_attempt 157 = .ok (.aload_n 0, 1) := by decide +kernel
theorem dX8_attempt_158 : decode cX8_attempt 158 = .ok (.getfield 7, 3) := by decide +kernel
theorem dX8_attempt_161 : decode cX8_attempt 161 = .ok (.sipush 2600, 3) := by decide +kernel
theorem dX8_attempt_164 : decode cX8_attempt 164 = .ok (.iload_n 1, 1) := by decide +kernel
theorem dX8_attempt_165 : decode cX8_attempt 165 = .ok (.iadd, 1) := by decide +kernel
theorem dX8_attempt_166 : decode cX8_attempt 166 = .ok (.iload 5, 2) := by decide +kernel
theorem dX8_attempt_168 : decode cX8_attempt 168 = .ok (.ifCond .eq 8, 3) := by decide +kernel
theorem dX8_attempt_171 : decode cX8_attempt 171 = .ok (.bipush 6, 2) := by decide +kernel
theorem dX8_attempt_173 : decode cX8_attempt 173 = .ok (.goto 4, 3) := by decide +kernel
theorem dX8_attempt_176 : decode cX8_attempt 176 = .ok (.iconst 5, 1) := by decide +kernel
theorem dX8_attempt_177 : decode cX8_attempt 177 = .ok (.iastore, 1) := by decide +kernel
theorem dX8_attempt_178 : decode cX8_attempt 178 = .ok (.return_, 1) := by decide +kernel
theorem dX8_reasonOf_0 : decode cX8_reasonOf 0 = .ok (.aload_n 0, 1) := by decide +kernel
theorem dX8_reasonOf_1 : decode cX8_reasonOf 1 = .ok (.getfield 7, 3) := by decide +kernel
theorem dX8_reasonOf_4 : decode cX8_reasonOf 4 = .ok (.sipush 1100, 3) := by decide +kernel
theorem dX8_reasonOf_7 : decode cX8_reasonOf 7 = .ok (.iload_n 1, 1) := by decide +kernel
theorem dX8_reasonOf_8 : decode cX8_reasonOf 8 = .ok (.iadd, 1) := by decide +kernel
theorem dX8_reasonOf_9 : decode cX8_reasonOf 9 = .ok (.iaload, 1) := by decide +kernel
theorem dX8_reasonOf_10 : decode cX8_reasonOf 10 = .ok (.iconst (-1), 1) := by decide +kernel
theorem dX8_reasonOf_11 : decode cX8_reasonOf 11 = .ok (.if_icmp .ne 7, 3) := by decide +kernel
theorem dX8_reasonOf_14 : decode cX8_reasonOf 14 = .ok (.iconst 1, 1) := by decide +kernel
theorem dX8_reasonOf_15 : decode cX8_reasonOf 15 = .ok (.goto 66, 3) := by decide +kernel
theorem dX8_reasonOf_18 : decode cX8_reasonOf 18 = .ok (.aload_n 0, 1) := by decide +kernel
theorem dX8_reasonOf_19 : decode cX8_reasonOf 19 = .ok (.getfield 7, 3) := by decide +kernel
theorem dX8_reasonOf_22 : decode cX8_reasonOf 22 = .ok (.sipush 1400, 3) := by decide +kernel
theorem dX8_reasonOf_25 : decode cX8_reasonOf 25 = .ok (.iload_n 1, 1) := by decide +kernel
theorem dX8_reasonOf_26 : decode cX8_reasonOf 26 = .ok (.iadd, 1) := by decide +kernel
theorem dX8_reasonOf_27 : decode cX8_reasonOf 27 = .ok (.iaload, 1) := by decide +kernel
theorem dX8_reasonOf_28 : decode cX8_reasonOf 28 = .ok (.iconst 1, 1) := by decide +kernel
theorem dX8_reasonOf_29 : decode cX8_reasonOf 29 = .ok (.if_icmp .ne 7, 3) := by decide +kernel
theorem dX8_reasonOf_32 : decode cX8_reasonOf 32 = .ok (.iconst 2, 1) := by decide +kernel
theorem dX8_reasonOf_33 : decode cX8_reasonOf 33 = .ok (.goto 48, 3) := by decide +kernel
theorem dX8_reasonOf_36 : decode cX8_reasonOf 36 = .ok (.aload_n 0, 1) := by decide +kernel
theorem dX8_reasonOf_37 : decode cX8_reasonOf 37 = .ok (.getfield 7, 3) := by decide +kernel
theorem dX8_reasonOf_40 : decode cX8_reasonOf 40 = .ok (.sipush 1700, 3) := by decide +kernel
theorem dX8_reasonOf_43 : decode cX8_reasonOf 43 = .ok (.iload_n 1, 1) := by decide +kernel
theorem dX8_reasonOf_44 : decode cX8_reasonOf 44 = .ok (.iadd, 1) := by decide +kernel
theorem dX8_reasonOf_45 : decode cX8_reasonOf 45 = .ok (.iaload, 1) := by decide +kernel
theorem dX8_reasonOf_46 : decode cX8_reasonOf 46 = .ok (.iconst 1, 1) := by decide +kernel
theorem dX8_reasonOf_47 : decode cX8_reasonOf 47 = .ok (.if_icmp .ne 7, 3) := by decide +kernel
theorem dX8_reasonOf_50 : decode cX8_reasonOf 50 = .ok (.iconst 3, 1) := by decide +kernel
theorem dX8_reasonOf_51 : decode cX8_reasonOf 51 = .ok (.goto 30, 3) := by decide +kernel
theorem dX8_reasonOf_54 : decode cX8_reasonOf 54 = .ok (.aload_n 0, 1) := by decide +kernel
theorem dX8_reasonOf_55 : decode cX8_reasonOf 55 = .ok (.getfield 7, 3) := by decide +kernel
theorem dX8_reasonOf_58 : decode cX8_reasonOf 58 = .ok (.sipush 2600, 3) := by decide +kernel
theorem dX8_reasonOf_61 : decode cX8_reasonOf 61 = .ok (.iload_n 1, 1) := by decide +kernel
theorem dX8_reasonOf_62 : decode cX8_reasonOf 62 = .ok (.iadd, 1) := by decide +kernel
theorem dX8_reasonOf_63 : decode cX8_reasonOf 63 = .ok (.iaload, 1) := by decide +kernel
theorem dX8_reasonOf_64 : decode cX8_reasonOf 64 = .ok (.ifCond .le 16, 3) := by decide +kernel
theorem dX8_reasonOf_67 : decode cX8_reasonOf 67 = .ok (.aload_n 0, 1) := by decide +kernel
theorem dX8_reasonOf_68 : decode cX8_reasonOf 68 = .ok (.getfield 7, 3) := by decide +kernel
theorem dX8_reasonOf_71 : decode cX8_reasonOf 71 = .ok (.sipush 2600, 3) := by decide +kernel
theorem dX8_reasonOf_74 : decode cX8_reasonOf 74 = .ok (.iload_n 1, 1) := by decide +kernel
theorem dX8_reasonOf_75 : decode cX8_reasonOf 75 = .ok (.iadd, 1) := by decide +kernel
theorem dX8_reasonOf_76 : decode cX8_reasonOf 76 = .ok (.iaload, 1) := by decide +kernel
theorem dX8_reasonOf_77 : decode cX8_reasonOf 77 = .ok (.goto 4, 3) := by decide +kernel
theorem dX8_reasonOf_80 : decode cX8_reasonOf 80 = .ok (.iconst 4, 1) := by decide +kernel
theorem dX8_reasonOf_81 : decode cX8_reasonOf 81 = .ok (.ireturn, 1) := by decide +kernel
theorem dX8_go_0 : decode cX8_go 0 = .ok (.aload_n 0, 1) := by decide +kernel
theorem dX8_go_1 : decode cX8_go 1 = .ok (.getfield 7, 3) := by decide +kernel
theorem dX8_go_4 : decode cX8_go 4 = .ok (.iconst 0, 1) := by decide +kernel
theorem dX8_go_5 : decode cX8_go 5 = .ok (.dup2, 1) := by decide +kernel
theorem dX8_go_6 : decode cX8_go 6 = .ok (.iaload, 1) := by decide +kernel
theorem dX8_go_7 : decode cX8_go 7 = .ok (.iconst 1, 1) := by decide +kernel
theorem dX8_go_8 : decode cX8_go 8 = .ok (.iadd, 1) := by decide +kernel
theorem dX8_go_9 : decode cX8_go 9 = .ok (.iastore, 1) := by decide +kernel
theorem dX8_go_10 : decode cX8_go 10 = .ok (.iconst 0, 1) := by decide +kernel
theorem dX8_go_11 : decode cX8_go 11 = .ok (.istore_n 1, 1) := by decide +kernel
theorem dX8_go_12 : decode cX8_go 12 = .ok (.iload_n 1, 1) := by decide +kernel
theorem dX8_go_13 : decode cX8_go 13 = .ok (.aload_n 0, 1) := by decide +kernel
theorem dX8_go_14 : decode cX8_go 14 = .ok (.getfield 7, 3) := by decide +kernel
theorem dX8_go_17 : decode cX8_go 17 = .ok (.bipush 9, 2) := by decide +kernel
theorem dX8_go_19 : decode cX8_go 19 = .ok (.iaload, 1) := by decide +kernel
theorem dX8_go_20 : decode cX8_go 20 = .ok (.if_icmp .ge 30, 3) := by decide +kernel
theorem dX8_go_23 : decode cX8_go 23 = .ok (.aload_n 0, 1) := by decide +kernel
theorem dX8_go_24 : decode cX8_go 24 = .ok (.getfield 7, 3) := by decide +kernel
theorem dX8_go_27 : decode cX8_go 27 = .ok (.sipush 500, 3) := by decide +kernel
theorem dX8_go_30 : decode cX8_go 30 = .ok (.iload_n 1, 1) := by decide +kernel
theorem dX8_go_31 : decode cX8_go 31 = .ok (.iadd, 1) := by decide +kernel
theorem dX8_go_32 : decode cX8_go 32 = .ok (.dup2, 1) := by decide +kernel
theorem dX8_go_33 : decode cX8_go 33 = .ok (.iaload, 1) := by decide +kernel
theorem dX8_go_34 : decode cX8_go 34 = .ok (.aload_n 0, 1) := by decide +kernel
theorem dX8_go_35 : decode cX8_go 35 = .ok (.iload_n 1, 1) := by decide +kernel
theorem dX8_go_36 : decode cX8_go 36 = .ok (.invokevirtual 32, 3) := by decide +kernel
theorem dX8_go_39 : decode cX8_go 39 = .ok (.invokestatic 36, 3) := by decide +kernel
theorem dX8_go_42 : decode cX8_go 42 = .ok (.iadd, 1) := by decide +kernel
theorem dX8_go_43 : decode cX8_go 43 = .ok (.iastore, 1) := by decide +kernel
theorem dX8_go_44 : decode cX8_go 44 = .ok (.iinc 1 1, 3) := by decide +kernel
theorem dX8_go_47 : decode cX8_go 47 = .ok (.goto (-35), 3) := by decide +kernel
theorem dX8_go_50 : decode cX8_go 50 = .ok (.iconst 0, 1) := by decide +kernel
theorem dX8_go_51 : decode cX8_go 51 = .ok (.istore_n 1, 1) := by decide +kernel
theorem dX8_go_52 : decode cX8_go 52 = .ok (.iload_n 1, 1) := by decide +kernel
theorem dX8_go_53 : decode cX8_go 53 = .ok (.aload_n 0, 1) := by decide +kernel
theorem dX8_go_54 : decode cX8_go 54 = .ok (.getfield 7, 3) := by decide +kernel
theorem dX8_go_57 : decode cX8_go 57 = .ok (.bipush 9, 2) := by decide +kernel
theorem dX8_go_59 : decode cX8_go 59 = .ok (.iaload, 1) := by decide +kernel
theorem dX8_go_60 : decode cX8_go 60 = .ok (.if_icmp .ge 71, 3) := by decide +kernel
theorem dX8_go_63 : decode cX8_go 63 = .ok (.aload_n 0, 1) := by decide +kernel
theorem dX8_go_64 : decode cX8_go 64 = .ok (.iload_n 1, 1) := by decide +kernel
theorem dX8_go_65 : decode cX8_go 65 = .ok (.invokevirtual 32, 3) := by decide +kernel
theorem dX8_go_68 : decode cX8_go 68 = .ok (.ifCond .eq 11, 3) := by decide +kernel
theorem dX8_go_71 : decode cX8_go 71 = .ok (.aload_n 0, 1) := by decide +kernel
theorem dX8_go_72 : decode cX8_go 72 = .ok (.iload_n 1, 1) := by decide +kernel
theorem dX8_go_73 : decode cX8_go 73 = .ok (.invokevirtual 115, 3) := by decide +kernel
theorem dX8_go_76 : decode cX8_go 76 = .ok (.goto 4, 3) := by decide +kernel
theorem dX8_go_79 : decode cX8_go 79 = .ok (.iconst (-1), 1) := by decide +kernel
theorem dX8_go_80 : decode cX8_go 80 = .ok (.istore_n 2, 1) := by decide +kernel
theorem dX8_go_81 : decode cX8_go 81 = .ok (.iload_n 2, 1) := by decide +kernel
theorem dX8_go_82 : decode cX8_go 82 = .ok (.iconst (-1), 1) := by decide +kernel
theorem dX8_go_83 : decode cX8_go 83 = .ok (.if_icmp .eq 42, 3) := by decide +kernel
theorem dX8_go_86 : decode cX8_go 86 = .ok (.aload_n 0, 1) := by decide +kernel
theorem dX8_go_87 : decode cX8_go 87 = .ok (.iload_n 1, 1) := by decide +kernel
theorem dX8_go_88 : decode cX8_go 88 = .ok (.invokevirtual 118, 3) := by decide +kernel
theorem dX8_go_91 : decode cX8_go 91 = .ok (.aload_n 0, 1) := by decide +kernel
theorem dX8_go_92 : decode cX8_go 92 = .ok (.getfield 7, 3) := by decide +kernel
theorem dX8_go_95 : decode cX8_go 95 = .ok (.bipush 16, 2) := by decide +kernel
theorem dX8_go_97 : decode cX8_go 97 = .ok (.iload_n 2, 1) := by decide +kernel
theorem dX8_go_98 : decode cX8_go 98 = .ok (.iadd, 1) := by decide +kernel
theorem dX8_go_99 : decode cX8_go 99 = .ok (.iaload, 1) := by decide +kernel
theorem dX8_go_100 : decode cX8_go 100 = .ok (.isub, 1) := by decide +kernel
theorem dX8_go_101 : decode cX8_go 101 = .ok (.iconst 0, 1) := by decide +kernel
theorem dX8_go_102 : decode cX8_go 102 = .ok (.aload_n 0, 1) := by decide +kernel
theorem dX8_go_103 : decode cX8_go 103 = .ok (.getfield 7, 3) := by decide +kernel
theorem dX8_go_106 : decode cX8_go 106 = .ok (.bipush 22, 2) := by decide +kernel
theorem dX8_go_108 : decode cX8_go 108 = .ok (.iload_n 2, 1) := by decide +kernel
theorem dX8_go_109 : decode cX8_go 109 = .ok (.iadd, 1) := by decide +kernel
theorem dX8_go_110 : decode cX8_go 110 = .ok (.iaload, 1) := by decide +kernel
theorem dX8_go_111 : decode cX8_go 111 = .ok (.iconst 1, 1) := by decide +kernel
theorem dX8_go_112 : decode cX8_go 112 = .ok (.isub, 1) := by decide +kernel
theorem dX8_go_113 : decode cX8_go 113 = .ok (.invokestatic 40, 3) := by decide +kernel
theorem dX8_go_116 : decode cX8_go 116 = .ok (.ifCond .eq 9, 3) := by decide +kernel
theorem dX8_go_119 : decode cX8_go 119 = .ok (.aload_n 0, 1) := by decide +kernel
theorem dX8_go_120 : decode cX8_go 120 = .ok (.iload_n 1, 1) := by decide +kernel
theorem dX8_go_121 : decode cX8_go 121 = .ok (.iload_n 2, 1) := by decide +kernel
theorem dX8_go_122 : decode cX8_go 122 = .ok (.invokevirtual 121, 3) := by decide +kernel
theorem dX8_go_125 : decode cX8_go 125 = .ok (.iinc 1 1, 3) := by decide +kernel
theorem dX8_go_128 : decode cX8_go 128 = .ok (.goto (-76), 3) := by decide +kernel
theorem dX8_go_131 : decode cX8_go 131 = .ok (.iconst 0, 1) := by decide +kernel
theorem dX8_go_132 : decode cX8_go 132 = .ok (.istore_n 1, 1) := by decide +kernel
theorem dX8_go_133 : decode cX8_go 133 = .ok (.iload_n 1, 1) := by decide +kernel
theorem dX8_go_134 : decode cX8_go 134 = .ok (.aload_n 0, 1) := by decide +kernel
theorem dX8_go_135 : decode cX8_go 135 = .ok (.getfield 7, 3) := by decide +kernel
theorem dX8_go_138 : decode cX8_go 138 = .ok (.bipush 9, 2) := by decide +kernel
theorem dX8_go_140 : decode cX8_go 140 = .ok (.iaload, 1) := by decide +kernel
theorem dX8_go_141 : decode cX8_go 141 = .ok (.if_icmp .ge 51, 3) := by decide +kernel
theorem dX8_go_144 : decode cX8_go 144 = .ok (.aload_n 0, 1) := by decide +kernel
theorem dX8_go_145 : decode cX8_go 145 = .ok (.iload_n 1, 1) := by decide +kernel
theorem dX8_go_146 : decode cX8_go 146 = .ok (.invokevirtual 32, 3) := by decide +kernel
theorem dX8_go_149 : decode cX8_go 149 = .ok (.ifCond .eq 37, 3) := by decide +kernel
theorem dX8_go_152 : decode cX8_go 152 = .ok (.aload_n 0, 1) := by decide +kernel
theorem dX8_go_153 : decode cX8_go 153 = .ok (.getfield 7, 3) := by decide +kernel
theorem dX8_go_156 : decode cX8_go 156 = .ok (.sipush 500, 3) := by decide +kernel
theorem dX8_go_159 : decode cX8_go 159 = .ok (.iload_n 1, 1) := by decide +kernel
theorem dX8_go_160 : decode cX8_go 160 = .ok (.iadd, 1) := by decide +kernel
theorem dX8_go_161 : decode cX8_go 161 = .ok (.iaload, 1) := by decide +kernel
theorem dX8_go_162 : decode cX8_go 162 = .ok (.aload_n 0, 1) := by decide +kernel
theorem dX8_go_163 : decode cX8_go 163 = .ok (.getfield 7, 3) := by decide +kernel
theorem dX8_go_166 : decode cX8_go 166 = .ok (.iconst 5, 1) := by decide +kernel
theorem dX8_go_167 : decode cX8_go 167 = .ok (.iaload, 1) := by decide +kernel
theorem dX8_go_168 : decode cX8_go 168 = .ok (.if_icmp .lt 18, 3) := by decide +kernel
theorem dX8_go_171 : decode cX8_go 171 = .ok (.aload_n 0, 1) := by decide +kernel
theorem dX8_go_172 : decode cX8_go 172 = .ok (.getfield 7, 3) := by decide +kernel
theorem dX8_go_175 : decode cX8_go 175 = .ok (.sipush 800, 3) := by decide +kernel
theorem dX8_go_178 : decode cX8_go 178 = .ok (.iload_n 1, 1) := by decide +kernel
theorem dX8_go_179 : decode cX8_go 179 = .ok (.iadd, 1) := by decide +kernel
theorem dX8_go_180 : decode cX8_go 180 = .ok (.aload_n 0, 1) := by decide +kernel
theorem dX8_go_181 : decode cX8_go 181 = .ok (.iload_n 1, 1) := by decide +kernel
theorem dX8_go_182 : decode cX8_go 182 = .ok (.invokevirtual 124, 3) := by decide +kernel
theorem dX8_go_185 : decode cX8_go 185 = .ok (.iastore, 1) := by decide +kernel
theorem dX8_go_186 : decode cX8_go 186 = .ok (.iinc 1 1, 3) := by decide +kernel
theorem dX8_go_189 : decode cX8_go 189 = .ok (.goto (-56), 3) := by decide +kernel
theorem dX8_go_192 : decode cX8_go 192 = .ok (.return_, 1) := by decide +kernel
theorem dX8_move_0 : decode cX8_move 0 = .ok (.aload_n 0, 1) := by decide +kernel
theorem dX8_move_1 : decode cX8_move 1 = .ok (.iconst 0, 1) := by decide +kernel
theorem dX8_move_2 : decode cX8_move 2 = .ok (.putfield 25, 3) := by decide +kernel
theorem dX8_move_5 : decode cX8_move 5 = .ok (.iload_n 1, 1) := by decide +kernel
theorem dX8_move_6 : decode cX8_move 6 = .ok (.iconst 1, 1) := by decide +kernel
theorem dX8_move_7 : decode cX8_move 7 = .ok (.sipush 500, 3) := by decide +kernel
theorem dX8_move_10 : decode cX8_move 10 = .ok (.invokestatic 40, 3) := by decide +kernel
theorem dX8_move_13 : decode cX8_move 13 = .ok (.ifCond .ne 9, 3) := by decide +kernel
theorem dX8_move_16 : decode cX8_move 16 = .ok (.aload_n 0, 1) := by decide +kernel
theorem dX8_move_17 : decode cX8_move 17 = .ok (.iconst 1, 1) := by decide +kernel
theorem dX8_move_18 : decode cX8_move 18 = .ok (.invokevirtual 44, 3) := by decide +kernel
theorem dX8_move_21 : decode cX8_move 21 = .ok (.ireturn, 1) := by decide +kernel
theorem dX8_move_22 : decode cX8_move 22 = .ok (.aload_n 0, 1) := by decide +kernel
theorem dX8_move_23 : decode cX8_move 23 = .ok (.getfield 7, 3) := by decide +kernel
theorem dX8_move_26 : decode cX8_move 26 = .ok (.iconst 0, 1) := by decide +kernel
theorem dX8_move_27 : decode cX8_move 27 = .ok (.iaload, 1) := by decide +kernel
theorem dX8_move_28 : decode cX8_move 28 = .ok (.iload_n 1, 1) := by decide +kernel
theorem dX8_move_29 : decode cX8_move 29 = .ok (.iadd, 1) := by decide +kernel
theorem dX8_move_30 : decode cX8_move 30 = .ok (.ldc 127, 2) := by decide +kernel
theorem dX8_move_32 : decode cX8_move 32 = .ok (.if_icmp .le 9, 3) := by decide +kernel
theorem dX8_move_35 : decode cX8_move 35 = .ok (.aload_n 0, 1) := by decide +kernel
theorem dX8_move_36 : decode cX8_move 36 = .ok (.iconst 2, 1) := by decide +kernel
theorem dX8_move_37 : decode cX8_move 37 = .ok (.invokevirtual 44, 3) := by decide +kernel
theorem dX8_move_40 : decode cX8_move 40 = .ok (.ireturn, 1) := by decide +kernel
theorem dX8_move_41 : decode cX8_move 41 = .ok (.aload_n 0, 1) := by decide +kernel
theorem dX8_move_42 : decode cX8_move 42 = .ok (.invokevirtual 58, 3) := by decide +kernel
theorem dX8_move_45 : decode cX8_move 45 = .ok (.aload_n 0, 1) := by decide +kernel
theorem dX8_move_46 : decode cX8_move 46 = .ok (.invokevirtual 54, 3) := by decide +kernel
theorem dX8_move_49 : decode cX8_move 49 = .ok (.istore_n 2, 1) := by decide +kernel
theorem dX8_move_50 : decode cX8_move 50 = .ok (.iconst 0, 1) := by decide +kernel
theorem dX8_move_51 : decode cX8_move 51 = .ok (.istore_n 3, 1) := by decide +kernel
theorem dX8_move_52 : decode cX8_move 52 = .ok (.iload_n 3, 1) := by decide +kernel
theorem dX8_move_53 : decode cX8_move 53 = .ok (.iload_n 1, 1) := by decide +kernel
theorem dX8_move_54 : decode cX8_move 54 = .ok (.if_icmp .ge 13, 3) := by decide +kernel
theorem dX8_move_57 : decode cX8_move 57 = .ok (.aload_n 0, 1) := by decide +kernel
theorem dX8_move_58 : decode cX8_move 58 = .ok (.invokevirtual 128, 3) := by decide +kernel
theorem dX8_move_61 : decode cX8_move 61 = .ok (.iinc 3 1, 3) := by decide +kernel
theorem dX8_move_64 : decode cX8_move 64 = .ok (.goto (-12), 3) := by decide +kernel
theorem dX8_move_67 : decode cX8_move 67 = .ok (.iload_n 2, 1) := by decide +kernel
theorem dX8_move_68 : decode cX8_move 68 = .ok (.aload_n 0, 1) := by decide +kernel
theorem dX8_move_69 : decode cX8_move 69 = .ok (.invokevirtual 54, 3) := by decide +kernel
theorem dX8_move_72 : decode cX8_move 72 = .ok (.isub, 1) := by decide +kernel
theorem dX8_move_73 : decode cX8_move 73 = .ok (.ireturn, 1) := by decide +kernel
theorem dX8_takeOff_0 : decode cX8_takeOff 0 = .ok (.aload_n 0, 1) := by decide +kernel
theorem dX8_takeOff_1 : decode cX8_takeOff 1 = .ok (.iconst 0, 1) := by decide +kernel
theorem dX8_takeOff_2 : decode cX8_takeOff 2 = .ok (.putfield 25, 3) := by decide +kernel
theorem dX8_takeOff_5 : decode cX8_takeOff 5 = .ok (.aload_n 0, 1) := by decide +kernel
theorem dX8_takeOff_6 : decode cX8_takeOff 6 = .ok (.iload_n 1, 1) := by decide +kernel
theorem dX8_takeOff_7 : decode cX8_takeOff 7 = .ok (.invokevirtual 131, 3) := by decide +kernel
theorem dX8_takeOff_10 : decode cX8_takeOff 10 = .ok (.ifCond .ne 9, 3) := by decide +kernel
theorem dX8_takeOff_13 : decode cX8_takeOff 13 = .ok (.aload_n 0, 1) := by decide +kernel
theorem dX8_takeOff_14 : decode cX8_takeOff 14 = .ok (.iconst 1, 1) := by decide +kernel
theorem dX8_takeOff_15 : decode cX8_takeOff 15 = .ok (.invokevirtual 44, 3) := by decide +kernel
theorem dX8_takeOff_18 : decode cX8_takeOff 18 = .ok (.ireturn, 1) := by decide +kernel
theorem dX8_takeOff_19 : decode cX8_takeOff 19 = .ok (.aload_n 0, 1) := by decide +kernel
theorem dX8_takeOff_20 : decode cX8_takeOff 20 = .ok (.iload_n 1, 1) := by decide +kernel
theorem dX8_takeOff_21 : decode cX8_takeOff 21 = .ok (.invokevirtual 32, 3) := by decide +kernel
theorem dX8_takeOff_24 : decode cX8_takeOff 24 = .ok (.ifCond .ne 9, 3) := by decide +kernel
theorem dX8_takeOff_27 : decode cX8_takeOff 27 = .ok (.aload_n 0, 1) := by decide +kernel
theorem dX8_takeOff_28 : decode cX8_takeOff 28 = .ok (.iconst 2, 1) := by decide +kernel
theorem dX8_takeOff_29 : decode cX8_takeOff 29 = .ok (.invokevirtual 44, 3) := by decide +kernel
theorem dX8_takeOff_32 : decode cX8_takeOff 32 = .ok (.ireturn, 1) := by decide +kernel
theorem dX8_takeOff_33 : decode cX8_takeOff 33 = .ok (.aload_n 0, 1) := by decide +kernel
theorem dX8_takeOff_34 : decode cX8_takeOff 34 = .ok (.invokevirtual 58, 3) := by decide +kernel
theorem dX8_takeOff_37 : decode cX8_takeOff 37 = .ok (.aload_n 0, 1) := by decide +kernel
theorem dX8_takeOff_38 : decode cX8_takeOff 38 = .ok (.getfield 7, 3) := by decide +kernel
theorem dX8_takeOff_41 : decode cX8_takeOff 41 = .ok (.sipush 800, 3) := by decide +kernel
theorem dX8_takeOff_44 : decode cX8_takeOff 44 = .ok (.iload_n 1, 1) := by decide +kernel
theorem dX8_takeOff_45 : decode cX8_takeOff 45 = .ok (.iadd, 1) := by decide +kernel
theorem dX8_takeOff_46 : decode cX8_takeOff 46 = .ok (.bipush 9, 2) := by decide +kernel
theorem dX8_takeOff_48 : decode cX8_takeOff 48 = .ok (.iastore, 1) := by decide +kernel
theorem dX8_takeOff_49 : decode cX8_takeOff 49 = .ok (.aload_n 0, 1) := by decide +kernel
theorem dX8_takeOff_50 : decode cX8_takeOff 50 = .ok (.getfield 7, 3) := by decide +kernel
theorem dX8_takeOff_53 : decode cX8_takeOff 53 = .ok (.sipush 500, 3) := by decide +kernel
theorem dX8_takeOff_56 : decode cX8_takeOff 56 = .ok (.iload_n 1, 1) := by decide +kernel
theorem dX8_takeOff_57 : decode cX8_takeOff 57 = .ok (.iadd, 1) := by decide +kernel
theorem dX8_takeOff_58 : decode cX8_takeOff 58 = .ok (.iaload, 1) := by decide +kernel
theorem dX8_takeOff_59 : decode cX8_takeOff 59 = .ok (.ireturn, 1) := by decide +kernel
theorem dX8_undo_0 : decode cX8_undo 0 = .ok (.aload_n 0, 1) := by decide +kernel
theorem dX8_undo_1 : decode cX8_undo 1 = .ok (.iconst 0, 1) := by decide +kernel
theorem dX8_undo_2 : decode cX8_undo 2 = .ok (.putfield 25, 3) := by decide +kernel
theorem dX8_undo_5 : decode cX8_undo 5 = .ok (.aload_n 0, 1) := by decide +kernel
theorem dX8_undo_6 : decode cX8_undo 6 = .ok (.getfield 29, 3) := by decide +kernel
theorem dX8_undo_9 : decode cX8_undo 9 = .ok (.ifCond .ne 9, 3) := by decide +kernel
theorem dX8_undo_12 : decode cX8_undo 12 = .ok (.aload_n 0, 1) := by decide +kernel
theorem dX8_undo_13 : decode cX8_undo 13 = .ok (.iconst 1, 1) := by decide +kernel
theorem dX8_undo_14 : decode cX8_undo 14 = .ok (.invokevirtual 44, 3) := by decide +kernel
theorem dX8_undo_17 : decode cX8_undo 17 = .ok (.ireturn, 1) := by decide +kernel
theorem dX8_undo_18 : decode cX8_undo 18 = .ok (.aload_n 0, 1) := by decide +kernel
theorem dX8_undo_19 : decode cX8_undo 19 = .ok (.dup, 1) := by decide +kernel
theorem dX8_undo_20 : decode cX8_undo 20 = .ok (.getfield 29, 3) := by decide +kernel
theorem dX8_undo_23 : decode cX8_undo 23 = .ok (.iconst 1, 1) := by decide +kernel
theorem dX8_undo_24 : decode cX8_undo 24 = .ok (.isub, 1) := by decide +kernel
theorem dX8_undo_25 : decode cX8_undo 25 = .ok (.putfield 29, 3) := by decide +kernel
theorem dX8_undo_28 : decode cX8_undo 28 = .ok (.iconst 0, 1) := by decide +kernel
theorem dX8_undo_29 : decode cX8_undo 29 = .ok (.istore_n 1, 1) := by decide +kernel
theorem dX8_undo_30 : decode cX8_undo 30 = .ok (.iload_n 1, 1) := by decide +kernel
theorem dX8_undo_31 : decode cX8_undo 31 = .ok (.sipush 3200, 3) := by decide +kernel
theorem dX8_undo_34 : decode cX8_undo 34 = .ok (.if_icmp .ge 30, 3) := by decide +kernel
theorem dX8_undo_37 : decode cX8_undo 37 = .ok (.aload_n 0, 1) := by decide +kernel
theorem dX8_undo_38 : decode cX8_undo 38 = .ok (.getfield 7, 3) := by decide +kernel
theorem dX8_undo_41 : decode cX8_undo 41 = .ok (.iload_n 1, 1) := by decide +kernel
theorem dX8_undo_42 : decode cX8_undo 42 = .ok (.aload_n 0, 1) := by decide +kernel
theorem dX8_undo_43 : decode cX8_undo 43 = .ok (.getfield 13, 3) := by decide +kernel
theorem dX8_undo_46 : decode cX8_undo 46 = .ok (.aload_n 0, 1) := by decide +kernel
theorem dX8_undo_47 : decode cX8_undo 47 = .ok (.getfield 29, 3) := by decide +kernel
theorem dX8_undo_50 : decode cX8_undo 50 = .ok (.sipush 3200, 3) := by decide +kernel
theorem dX8_undo_53 : decode cX8_undo 53 = .ok (.imul, 1) := by decide +kernel
theorem dX8_undo_54 : decode cX8_undo 54 = .ok (.iload_n 1, 1) := by decide +kernel
theorem dX8_undo_55 : decode cX8_undo 55 = .ok (.iadd, 1) := by decide +kernel
theorem dX8_undo_56 : decode cX8_undo 56 = .ok (.iaload, 1) := by decide +kernel
theorem dX8_undo_57 : decode cX8_undo 57 = .ok (.iastore, 1) := by decide +kernel
theorem dX8_undo_58 : decode cX8_undo 58 = .ok (.iinc 1 1, 3) := by decide +kernel
theorem dX8_undo_61 : decode cX8_undo 61 = .ok (.goto (-31), 3) := by decide +kernel
theorem dX8_undo_64 : decode cX8_undo 64 = .ok (.aload_n 0, 1) := by decide +kernel
theorem dX8_undo_65 : decode cX8_undo 65 = .ok (.getfield 29, 3) := by decide +kernel
theorem dX8_undo_68 : decode cX8_undo 68 = .ok (.ireturn, 1) := by decide +kernel
theorem dX8_part_0 : decode cX8_part 0 = .ok (.aload_n 0, 1) := by decide +kernel
theorem dX8_part_1 : decode cX8_part 1 = .ok (.iconst 0, 1) := by decide +kernel
theorem dX8_part_2 : decode cX8_part 2 = .ok (.putfield 25, 3) := by decide +kernel
theorem dX8_part_5 : decode cX8_part 5 = .ok (.aload_n 0, 1) := by decide +kernel
theorem dX8_part_6 : decode cX8_part 6 = .ok (.iload_n 1, 1) := by decide +kernel
theorem dX8_part_7 : decode cX8_part 7 = .ok (.invokevirtual 131, 3) := by decide +kernel
theorem dX8_part_10 : decode cX8_part 10 = .ok (.ifCond .ne 9, 3) := by decide +kernel
theorem dX8_part_13 : decode cX8_part 13 = .ok (.aload_n 0, 1) := by decide +kernel
theorem dX8_part_14 : decode cX8_part 14 = .ok (.iconst 1, 1) := by decide +kernel
theorem dX8_part_15 : decode cX8_part 15 = .ok (.invokevirtual 44, 3) := by decide +kernel
theorem dX8_part_18 : decode cX8_part 18 = .ok (.ireturn, 1) := by decide +kernel
theorem dX8_part_19 : decode cX8_part 19 = .ok (.iload_n 2, 1) := by decide +kernel
theorem dX8_part_20 : decode cX8_part 20 = .ok (.tableswitch 173 0 9 #[56, 67, 78, 89, 100, 111, 122, 133, 144, 162], 56) := by decide +kernel
theorem dX8_part_76 : decode cX8_part 76 = .ok (.aload_n 0, 1) := by decide +kernel
theorem dX8_part_77 : decode cX8_part 77 = .ok (.getfield 7, 3) := by decide +kernel
theorem dX8_part_80 : decode cX8_part 80 = .ok (.sipush 200, 3) := by decide +kernel
theorem dX8_part_83 : decode cX8_part 83 = .ok (.iload_n 1, 1) := by decide +kernel
theorem dX8_part_84 : decode cX8_part 84 = .ok (.iadd, 1) := by decide +kernel
theorem dX8_part_85 : decode cX8_part 85 = .ok (.iaload, 1) := by decide +kernel
theorem dX8_part_86 : decode cX8_part 86 = .ok (.ireturn, 1) := by decide +kernel
theorem dX8_part_87 : decode cX8_part 87 = .ok (.aload_n 0, 1) := by decide +kernel
theorem dX8_part_88 : decode cX8_part 88 = .ok (.getfield 7, 3) := by decide +kernel
theorem dX8_part_91 : decode cX8_part 91 = .ok (.sipush 800, 3) := by decide +kernel
theorem dX8_part_94 : decode cX8_part 94 = .ok (.iload_n 1, 1) := by decide +kernel
theorem dX8_part_95 : decode cX8_part 95 = .ok (.iadd, 1) := by decide +kernel
theorem dX8_part_96 : decode cX8_part 96 = .ok (.iaload, 1) := by decide +kernel
theorem dX8_part_97 : decode cX8_part 97 = .ok (.ireturn, 1) := by decide +kernel
theorem dX8_part_98 : decode cX8_part 98 = .ok (.aload_n 0, 1) := by decide +kernel
theorem dX8_part_99 : decode cX8_part 99 = .ok (.getfield 7, 3) := by decide +kernel
theorem dX8_part_102 : decode cX8_part 102 = .ok (.sipush 500, 3) := by decide +kernel
theorem dX8_part_105 : decode cX8_part 105 = .ok (.iload_n 1, 1) := by decide +kernel
theorem dX8_part_106 : decode cX8_part 106 = .ok (.iadd, 1) := by decide +kernel
theorem dX8_part_107 : decode cX8_part 107 = .ok (.iaload, 1) := by decide +kernel
theorem dX8_part_108 : decode cX8_part 108 = .ok (.ireturn, 1) := by decide +kernel
theorem dX8_part_109 : decode cX8_part 109 = .ok (.aload_n 0, 1) := by decide +kernel
theorem dX8_part_110 : decode cX8_part 110 = .ok (.getfield 7, 3) := by decide +kernel
theorem dX8_part_113 : decode cX8_part 113 = .ok (.sipush 1100, 3) := by decide +kernel
theorem dX8_part_116 : decode cX8_part 116 = .ok (.iload_n 1, 1) := by decide +kernel
theorem dX8_part_117 : decode cX8_part 117 = .ok (.iadd, 1) := by decide +kernel
theorem dX8_part_118 : decode cX8_part 118 = .ok (.iaload, 1) := by decide +kernel
theorem dX8_part_119 : decode cX8_part 119 = .ok (.ireturn, 1) := by decide +kernel
theorem dX8_part_120 : decode cX8_part 120 = .ok (.aload_n 0, 1) := by decide +kernel
theorem dX8_part_121 : decode cX8_part 121 = .ok (.getfield 7, 3) := by decide +kernel
theorem dX8_part_124 : decode cX8_part 124 = .ok (.sipush 1400, 3) := by decide +kernel
theorem dX8_part_127 : decode cX8_part 127 = .ok (.iload_n 1, 1) := by decide +kernel
theorem dX8_part_128 : decode cX8_part 128 = .ok (.iadd, 1) := by decide +kernel
theorem dX8_part_129 : decode cX8_part 129 = .ok (.iaload, 1) := by decide +kernel
theorem dX8_part_130 : decode cX8_part 130 = .ok (.ireturn, 1) := by decide +kernel
theorem dX8_part_131 : decode cX8_part 131 = .ok (.aload_n 0, 1) := by decide +kernel
theorem dX8_part_132 : decode cX8_part 132 = .ok (.getfield 7, 3) := by decide +kernel
theorem dX8_part_135 : decode cX8_part 135 = .ok (.sipush 1700, 3) := by decide +kernel
theorem dX8_part_138 : decode cX8_part 138 = .ok (.iload_n 1, 1) := by decide +kernel
theorem dX8_part_139 : decode cX8_part 139 = .ok (.iadd, 1) := by decide +kernel
theorem dX8_part_140 : decode cX8_part 140 = .ok (.iaload, 1) := by decide +kernel
theorem dX8_part_141 : decode cX8_part 141 = .ok (.ireturn, 1) := by decide +kernel
theorem dX8_part_142 : decode cX8_part 142 = .ok (.aload_n 0, 1) := by decide +kernel
theorem dX8_part_143 : decode cX8_part 143 = .ok (.getfield 7, 3) := by decide +kernel
theorem dX8_part_146 : decode cX8_part 146 = .ok (.sipush 2000, 3) := by decide +kernel
theorem dX8_part_149 : decode cX8_part 149 = .ok (.iload_n 1, 1) := by decide +kernel
theorem dX8_part_150 : decode cX8_part 150 = .ok (.iadd, 1) := by decide +kernel
theorem dX8_part_151 : decode cX8_part 151 = .ok (.iaload, 1) := by decide +kernel
theorem dX8_part_152 : decode cX8_part 152 = .ok (.ireturn, 1) := by decide +kernel
theorem dX8_part_153 : decode cX8_part 153 = .ok (.aload_n 0, 1) := by decide +kernel
theorem dX8_part_154 : decode cX8_part 154 = .ok (.getfield 7, 3) := by decide +kernel
theorem dX8_part_157 : decode cX8_part 157 = .ok (.sipush 2300, 3) := by decide +kernel
theorem dX8_part_160 : decode cX8_part 160 = .ok (.iload_n 1, 1) := by decide +kernel
theorem dX8_part_161 : decode cX8_part 161 = .ok (.iadd, 1) := by decide +kernel
theorem dX8_part_162 : decode cX8_part 162 = .ok (.iaload, 1) := by decide +kernel
theorem dX8_part_163 : decode cX8_part 163 = .ok (.ireturn, 1) := by decide +kernel
theorem dX8_part_164 : decode cX8_part 164 = .ok (.aload_n 0, 1) := by decide +kernel
theorem dX8_part_165 : decode cX8_part 165 = .ok (.iload_n 1, 1) := by decide +kernel
theorem dX8_part_166 : decode cX8_part 166 = .ok (.invokevirtual 32, 3) := by decide +kernel
theorem dX8_part_169 : decode cX8_part 169 = .ok (.ifCond .eq 11, 3) := by decide +kernel
theorem dX8_part_172 : decode cX8_part 172 = .ok (.aload_n 0, 1) := by decide +kernel
theorem dX8_part_173 : decode cX8_part 173 = .ok (.iload_n 1, 1) := by decide +kernel
theorem dX8_part_174 : decode cX8_part 174 = .ok (.invokevirtual 115, 3) := by decide +kernel
theorem dX8_part_177 : decode cX8_part 177 = .ok (.goto 4, 3) := by decide +kernel
theorem dX8_part_180 : decode cX8_part 180 = .ok (.iconst (-1), 1) := by decide +kernel
theorem dX8_part_181 : decode cX8_part 181 = .ok (.ireturn, 1) := by decide +kernel
theorem dX8_part_182 : decode cX8_part 182 = .ok (.aload_n 0, 1) := by decide +kernel
theorem dX8_part_183 : decode cX8_part 183 = .ok (.getfield 7, 3) := by decide +kernel
theorem dX8_part_186 : decode cX8_part 186 = .ok (.sipush 2600, 3) := by decide +kernel
theorem dX8_part_189 : decode cX8_part 189 = .ok (.iload_n 1, 1) := by decide +kernel
theorem dX8_part_190 : decode cX8_part 190 = .ok (.iadd, 1) := by decide +kernel
theorem dX8_part_191 : decode cX8_part 191 = .ok (.iaload, 1) := by decide +kernel
theorem dX8_part_192 : decode cX8_part 192 = .ok (.ireturn, 1) := by decide +kernel
theorem dX8_part_193 : decode cX8_part 193 = .ok (.aload_n 0, 1) := by decide +kernel
theorem dX8_part_194 : decode cX8_part 194 = .ok (.iconst 2, 1) := by decide +kernel
theorem dX8_part_195 : decode cX8_part 195 = .ok (.invokevirtual 44, 3) := by decide +kernel
theorem dX8_part_198 : decode cX8_part 198 = .ok (.ireturn, 1) := by decide +kernel
theorem dX8_routesTo_0 : decode cX8_routesTo 0 = .ok (.iconst 0, 1) := by decide +kernel
theorem dX8_routesTo_1 : decode cX8_routesTo 1 = .ok (.istore_n 2, 1) := by decide +kernel
theorem dX8_routesTo_2 : decode cX8_routesTo 2 = .ok (.iconst 0, 1) := by decide +kernel
theorem dX8_routesTo_3 : decode cX8_routesTo 3 = .ok (.istore_n 3, 1) := by decide +kernel
theorem dX8_routesTo_4 : decode cX8_routesTo 4 = .ok (.iload_n 3, 1) := by decide +kernel
theorem dX8_routesTo_5 : decode cX8_routesTo 5 = .ok (.aload_n 0, 1) := by decide +kernel
theorem dX8_routesTo_6 : decode cX8_routesTo 6 = .ok (.getfield 7, 3) := by decide +kernel
theorem dX8_routesTo_9 : decode cX8_routesTo 9 = .ok (.bipush 8, 2) := by decide +kernel
theorem dX8_routesTo_11 : decode cX8_routesTo 11 = .ok (.iaload, 1) := by decide +kernel
theorem dX8_routesTo_12 : decode cX8_routesTo 12 = .ok (.if_icmp .ge 33, 3) := by decide +kernel
theorem dX8_routesTo_15 : decode cX8_routesTo 15 = .ok (.iload_n 2, 1) := by decide +kernel
theorem dX8_routesTo_16 : decode cX8_routesTo 16 = .ok (.aload_n 0, 1) := by decide +kernel
theorem dX8_routesTo_17 : decode cX8_routesTo 17 = .ok (.getfield 7, 3) := by decide +kernel
theorem dX8_routesTo_20 : decode cX8_routesTo 20 = .ok (.bipush 76, 2) := by decide +kernel
theorem dX8_routesTo_22 : decode cX8_routesTo 22 = .ok (.iload_n 3, 1) := by decide +kernel
theorem dX8_routesTo_23 : decode cX8_routesTo 23 = .ok (.iadd, 1) := by decide +kernel
theorem dX8_routesTo_24 : decode cX8_routesTo 24 = .ok (.iaload, 1) := by decide +kernel
theorem dX8_routesTo_25 : decode cX8_routesTo 25 = .ok (.iload_n 1, 1) := by decide +kernel
theorem dX8_routesTo_26 : decode cX8_routesTo 26 = .ok (.if_icmp .ne 7, 3) := by decide +kernel
theorem dX8_routesTo_29 : decode cX8_routesTo 29 = .ok (.iconst 1, 1) := by decide +kernel
theorem dX8_routesTo_30 : decode cX8_routesTo 30 = .ok (.goto 4, 3) := by decide +kernel
theorem dX8_routesTo_33 : decode cX8_routesTo 33 = .ok (.iconst 0, 1) := by decide +kernel
theorem dX8_routesTo_34 : decode cX8_routesTo 34 = .ok (.invokestatic 36, 3) := by decide +kernel
theorem dX8_routesTo_37 : decode cX8_routesTo 37 = .ok (.iadd, 1) := by decide +kernel
theorem dX8_routesTo_38 : decode cX8_routesTo 38 = .ok (.istore_n 2, 1) := by decide +kernel
theorem dX8_routesTo_39 : decode cX8_routesTo 39 = .ok (.iinc 3 1, 3) := by decide +kernel
theorem dX8_routesTo_42 : decode cX8_routesTo 42 = .ok (.goto (-38), 3) := by decide +kernel
theorem dX8_routesTo_45 : decode cX8_routesTo 45 = .ok (.iload_n 2, 1) := by decide +kernel
theorem dX8_routesTo_46 : decode cX8_routesTo 46 = .ok (.ireturn, 1) := by decide +kernel
theorem dX8_lane_0 : decode cX8_lane 0 = .ok (.aload_n 0, 1) := by decide +kernel
theorem dX8_lane_1 : decode cX8_lane 1 = .ok (.iconst 0, 1) := by decide +kernel
theorem dX8_lane_2 : decode cX8_lane 2 = .ok (.putfield 25, 3) := by decide +kernel
theorem dX8_lane_5 : decode cX8_lane 5 = .ok (.aload_n 0, 1) := by decide +kernel
theorem dX8_lane_6 : decode cX8_lane 6 = .ok (.iload_n 1, 1) := by decide +kernel
theorem dX8_lane_7 : decode cX8_lane 7 = .ok (.invokevirtual 61, 3) := by decide +kernel
theorem dX8_lane_10 : decode cX8_lane 10 = .ok (.ifCond .ne 9, 3) := by decide +kernel
theorem dX8_lane_13 : decode cX8_lane 13 = .ok (.aload_n 0, 1) := by decide +kernel
theorem dX8_lane_14 : decode cX8_lane 14 = .ok (.iconst 1, 1) := by decide +kernel
theorem dX8_lane_15 : decode cX8_lane 15 = .ok (.invokevirtual 44, 3) := by decide +kernel
theorem dX8_lane_18 : decode cX8_lane 18 = .ok (.ireturn, 1) := by decide +kernel
theorem dX8_lane_19 : decode cX8_lane 19 = .ok (.iload_n 2, 1) := by decide +kernel
theorem dX8_lane_20 : decode cX8_lane 20 = .ok (.tableswitch 96 0 5 #[40, 50, 60, 70, 80, 90], 40) := by decide +kernel
theorem dX8_lane_60 : decode cX8_lane 60 = .ok (.aload_n 0, 1) := by decide +kernel
theorem dX8_lane_61 : decode cX8_lane 61 = .ok (.getfield 7, 3) := by decide +kernel
theorem dX8_lane_64 : decode cX8_lane 64 = .ok (.bipush 16, 2) := by decide +kernel
theorem dX8_lane_66 : decode cX8_lane 66 = .ok (.iload_n 1, 1) := by decide +kernel
theorem dX8_lane_67 : decode cX8_lane 67 = .ok (.iadd, 1) := by decide +kernel
theorem dX8_lane_68 : decode cX8_lane 68 = .ok (.iaload, 1) := by decide +kernel
theorem dX8_lane_69 : decode cX8_lane 69 = .ok (.ireturn, 1) := by decide +kernel
theorem dX8_lane_70 : decode cX8_lane 70 = .ok (.aload_n 0, 1) := by decide +kernel
theorem dX8_lane_71 : decode cX8_lane 71 = .ok (.getfield 7, 3) := by decide +kernel
theorem dX8_lane_74 : decode cX8_lane 74 = .ok (.bipush 22, 2) := by decide +kernel
theorem dX8_lane_76 : decode cX8_lane 76 = .ok (.iload_n 1, 1) := by decide +kernel
theorem dX8_lane_77 : decode cX8_lane 77 = .ok (.iadd, 1) := by decide +kernel
theorem dX8_lane_78 : decode cX8_lane 78 = .ok (.iaload, 1) := by decide +kernel
theorem dX8_lane_79 : decode cX8_lane 79 = .ok (.ireturn, 1) := by decide +kernel
theorem dX8_lane_80 : decode cX8_lane 80 = .ok (.aload_n 0, 1) := by decide +kernel
theorem dX8_lane_81 : decode cX8_lane 81 = .ok (.getfield 7, 3) := by decide +kernel
theorem dX8_lane_84 : decode cX8_lane 84 = .ok (.bipush 28, 2) := by decide +kernel
theorem dX8_lane_86 : decode cX8_lane 86 = .ok (.iload_n 1, 1) := by decide +kernel
theorem dX8_lane_87 : decode cX8_lane 87 = .ok (.iadd, 1) := by decide +kernel
theorem dX8_lane_88 : decode cX8_lane 88 = .ok (.iaload, 1) := by decide +kernel
theorem dX8_lane_89 : decode cX8_lane 89 = .ok (.ireturn, 1) := by decide +kernel
theorem dX8_lane_90 : decode cX8_lane 90 = .ok (.aload_n 0, 1) := by decide +kernel
theorem dX8_lane_91 : decode cX8_lane 91 = .ok (.getfield 7, 3) := by decide +kernel
theorem dX8_lane_94 : decode cX8_lane 94 = .ok (.bipush 34, 2) := by decide +kernel
theorem dX8_lane_96 : decode cX8_lane 96 = .ok (.iload_n 1, 1) := by decide +kernel
theorem dX8_lane_97 : decode cX8_lane 97 = .ok (.iadd, 1) := by decide +kernel
theorem dX8_lane_98 : decode cX8_lane 98 = .ok (.iaload, 1) := by decide +kernel
theorem dX8_lane_99 : decode cX8_lane 99 = .ok (.ireturn, 1) := by decide +kernel
theorem dX8_lane_100 : decode cX8_lane 100 = .ok (.aload_n 0, 1) := by decide +kernel
theorem dX8_lane_101 : decode cX8_lane 101 = .ok (.getfield 7, 3) := by decide +kernel
theorem dX8_lane_104 : decode cX8_lane 104 = .ok (.bipush 40, 2) := by decide +kernel
theorem dX8_lane_106 : decode cX8_lane 106 = .ok (.iload_n 1, 1) := by decide +kernel
theorem dX8_lane_107 : decode cX8_lane 107 = .ok (.iadd, 1) := by decide +kernel
theorem dX8_lane_108 : decode cX8_lane 108 = .ok (.iaload, 1) := by decide +kernel
theorem dX8_lane_109 : decode cX8_lane 109 = .ok (.ireturn, 1) := by decide +kernel
theorem dX8_lane_110 : decode cX8_lane 110 = .ok (.aload_n 0, 1) := by decide +kernel
theorem dX8_lane_111 : decode cX8_lane 111 = .ok (.iload_n 1, 1) := by decide +kernel
theorem dX8_lane_112 : decode cX8_lane 112 = .ok (.invokevirtual 134, 3) := by decide +kernel
theorem dX8_lane_115 : decode cX8_lane 115 = .ok (.ireturn, 1) := by decide +kernel
theorem dX8_lane_116 : decode cX8_lane 116 = .ok (.aload_n 0, 1) := by decide +kernel
theorem dX8_lane_117 : decode cX8_lane 117 = .ok (.iconst 2, 1) := by decide +kernel
theorem dX8_lane_118 : decode cX8_lane 118 = .ok (.invokevirtual 44, 3) := by decide +kernel
theorem dX8_lane_121 : decode cX8_lane 121 = .ok (.ireturn, 1) := by decide +kernel
theorem dX8_fates_0 : decode cX8_fates 0 = .ok (.iconst 0, 1) := by decide +kernel
theorem dX8_fates_1 : decode cX8_fates 1 = .ok (.istore_n 3, 1) := by decide +kernel
theorem dX8_fates_2 : decode cX8_fates 2 = .ok (.iconst 0, 1) := by decide +kernel
theorem dX8_fates_3 : decode cX8_fates 3 = .ok (.istore 4, 2) := by decide +kernel
theorem dX8_fates_5 : decode cX8_fates 5 = .ok (.iload 4, 2) := by decide +kernel
theorem dX8_fates_7 : decode cX8_fates 7 = .ok (.aload_n 0, 1) := by decide +kernel
theorem dX8_fates_8 : decode cX8_fates 8 = .ok (.getfield 7, 3) := by decide +kernel
theorem dX8_fates_11 : decode cX8_fates 11 = .ok (.bipush 9, 2) := by decide +kernel
theorem dX8_fates_13 : decode cX8_fates 13 = .ok (.iaload, 1) := by decide +kernel
theorem dX8_fates_14 : decode cX8_fates 14 = .ok (.if_icmp .ge 31, 3) := by decide +kernel
theorem dX8_fates_17 : decode cX8_fates 17 = .ok (.iload_n 3, 1) := by decide +kernel
theorem dX8_fates_18 : decode cX8_fates 18 = .ok (.aload_n 0, 1) := by decide +kernel
theorem dX8_fates_19 : decode cX8_fates 19 = .ok (.getfield 7, 3) := by decide +kernel
theorem dX8_fates_22 : decode cX8_fates 22 = .ok (.sipush 800, 3) := by decide +kernel
theorem dX8_fates_25 : decode cX8_fates 25 = .ok (.iload 4, 2) := by decide +kernel
theorem dX8_fates_27 : decode cX8_fates 27 = .ok (.iadd, 1) := by decide +kernel
theorem dX8_fates_28 : decode cX8_fates 28 = .ok (.iaload, 1) := by decide +kernel
theorem dX8_fates_29 : decode cX8_fates 29 = .ok (.iload_n 1, 1) := by decide +kernel
theorem dX8_fates_30 : decode cX8_fates 30 = .ok (.iload_n 2, 1) := by decide +kernel
theorem dX8_fates_31 : decode cX8_fates 31 = .ok (.invokestatic 40, 3) := by decide +kernel
theorem dX8_fates_34 : decode cX8_fates 34 = .ok (.invokestatic 36, 3) := by decide +kernel
theorem dX8_fates_37 : decode cX8_fates 37 = .ok (.iadd, 1) := by decide +kernel
theorem dX8_fates_38 : decode cX8_fates 38 = .ok (.istore_n 3, 1) := by decide +kernel
theorem dX8_fates_39 : decode cX8_fates 39 = .ok (.iinc 4 1, 3) := by decide +kernel
theorem dX8_fates_42 : decode cX8_fates 42 = .ok (.goto (-37), 3) := by decide +kernel
theorem dX8_fates_45 : decode cX8_fates 45 = .ok (.iload_n 3, 1) := by decide +kernel
theorem dX8_fates_46 : decode cX8_fates 46 = .ok (.ireturn, 1) := by decide +kernel
theorem dX8_sum_0 : decode cX8_sum 0 = .ok (.iconst 0, 1) := by decide +kernel
theorem dX8_sum_1 : decode cX8_sum 1 = .ok (.istore_n 2, 1) := by decide +kernel
theorem dX8_sum_2 : decode cX8_sum 2 = .ok (.iconst 0, 1) := by decide +kernel
theorem dX8_sum_3 : decode cX8_sum 3 = .ok (.istore_n 3, 1) := by decide +kernel
theorem dX8_sum_4 : decode cX8_sum 4 = .ok (.iload_n 3, 1) := by decide +kernel
theorem dX8_sum_5 : decode cX8_sum 5 = .ok (.aload_n 0, 1) := by decide +kernel
theorem dX8_sum_6 : decode cX8_sum 6 = .ok (.getfield 7, 3) := by decide +kernel
theorem dX8_sum_9 : decode cX8_sum 9 = .ok (.bipush 9, 2) := by decide +kernel
theorem dX8_sum_11 : decode cX8_sum 11 = .ok (.iaload, 1) := by decide +kernel
theorem dX8_sum_12 : decode cX8_sum 12 = .ok (.if_icmp .ge 20, 3) := by decide +kernel
theorem dX8_sum_15 : decode cX8_sum 15 = .ok (.iload_n 2, 1) := by decide +kernel
theorem dX8_sum_16 : decode cX8_sum 16 = .ok (.aload_n 0, 1) := by decide +kernel
theorem dX8_sum_17 : decode cX8_sum 17 = .ok (.getfield 7, 3) := by decide +kernel
theorem dX8_sum_20 : decode cX8_sum 20 = .ok (.iload_n 1, 1) := by decide +kernel
theorem dX8_sum_21 : decode cX8_sum 21 = .ok (.iload_n 3, 1) := by decide +kernel
theorem dX8_sum_22 : decode cX8_sum 22 = .ok (.iadd, 1) := by decide +kernel
theorem dX8_sum_23 : decode cX8_sum 23 = .ok (.iaload, 1) := by decide +kernel
theorem dX8_sum_24 : decode cX8_sum 24 = .ok (.iadd, 1) := by decide +kernel
theorem dX8_sum_25 : decode cX8_sum 25 = .ok (.istore_n 2, 1) := by decide +kernel
theorem dX8_sum_26 : decode cX8_sum 26 = .ok (.iinc 3 1, 3) := by decide +kernel
theorem dX8_sum_29 : decode cX8_sum 29 = .ok (.goto (-25), 3) := by decide +kernel
theorem dX8_sum_32 : decode cX8_sum 32 = .ok (.iload_n 2, 1) := by decide +kernel
theorem dX8_sum_33 : decode cX8_sum 33 = .ok (.ireturn, 1) := by decide +kernel
theorem dX8_total_0 : decode cX8_total 0 = .ok (.aload_n 0, 1) := by decide +kernel
theorem dX8_total_1 : decode cX8_total 1 = .ok (.iconst 0, 1) := by decide +kernel
theorem dX8_total_2 : decode cX8_total 2 = .ok (.putfield 25, 3) := by decide +kernel
theorem dX8_total_5 : decode cX8_total 5 = .ok (.iload_n 1, 1) := by decide +kernel
theorem dX8_total_6 : decode cX8_total 6 = .ok (.tableswitch 186 0 14 #[74, 81, 89, 94, 103, 111, 120, 128, 136, 144, 152, 160, 168, 176, 181], 74) := by decide +kernel
theorem dX8_total_80 : decode cX8_total 80 = .ok (.aload_n 0, 1) := by decide +kernel
theorem dX8_total_81 : decode cX8_total 81 = .ok (.getfield 7, 3) := by decide +kernel
theorem dX8_total_84 : decode cX8_total 84 = .ok (.iconst 0, 1) := by decide +kernel
theorem dX8_total_85 : decode cX8_total 85 = .ok (.iaload, 1) := by decide +kernel
theorem dX8_total_86 : decode cX8_total 86 = .ok (.ireturn, 1) := by decide +kernel
theorem dX8_total_87 : decode cX8_total 87 = .ok (.aload_n 0, 1) := by decide +kernel
theorem dX8_total_88 : decode cX8_total 88 = .ok (.getfield 7, 3) := by decide +kernel
theorem dX8_total_91 : decode cX8_total 91 = .ok (.bipush 9, 2) := by decide +kernel
theorem dX8_total_93 : decode cX8_total 93 = .ok (.iaload, 1) := by decide +kernel
theorem dX8_total_94 : decode cX8_total 94 = .ok (.ireturn, 1) := by decide +kernel
theorem dX8_total_95 : decode cX8_total 95 = .ok (.aload_n 0, 1) := by decide +kernel
theorem dX8_total_96 : decode cX8_total 96 = .ok (.invokevirtual 54, 3) := by decide +kernel
theorem dX8_total_99 : decode cX8_total 99 = .ok (.ireturn, 1) := by decide +kernel
theorem dX8_total_100 : decode cX8_total 100 = .ok (.aload_n 0, 1) := by decide +kernel
theorem dX8_total_101 : decode cX8_total 101 = .ok (.bipush 10, 2) := by decide +kernel
theorem dX8_total_103 : decode cX8_total 103 = .ok (.bipush 15, 2) := by decide +kernel
theorem dX8_total_105 : decode cX8_total 105 = .ok (.invokevirtual 137, 3) := by decide +kernel
theorem dX8_total_108 : decode cX8_total 108 = .ok (.ireturn, 1) := by decide +kernel
theorem dX8_total_109 : decode cX8_total 109 = .ok (.aload_n 0, 1) := by decide +kernel
theorem dX8_total_110 : decode cX8_total 110 = .ok (.iconst 1, 1) := by decide +kernel
theorem dX8_total_111 : decode cX8_total 111 = .ok (.bipush 6, 2) := by decide +kernel
theorem dX8_total_113 : decode cX8_total 113 = .ok (.invokevirtual 137, 3) := by decide +kernel
theorem dX8_total_116 : decode cX8_total 116 = .ok (.ireturn, 1) := by decide +kernel
theorem dX8_total_117 : decode cX8_total 117 = .ok (.aload_n 0, 1) := by decide +kernel
theorem dX8_total_118 : decode cX8_total 118 = .ok (.bipush 9, 2) := by decide +kernel
theorem dX8_total_120 : decode cX8_total 120 = .ok (.bipush 9, 2) := by decide +kernel
theorem dX8_total_122 : decode cX8_total 122 = .ok (.invokevirtual 137, 3) := by decide +kernel
theorem dX8_total_125 : decode cX8_total 125 = .ok (.ireturn, 1) := by decide +kernel
theorem dX8_total_126 : decode cX8_total 126 = .ok (.aload_n 0, 1) := by decide +kernel
theorem dX8_total_127 : decode cX8_total 127 = .ok (.getfield 7, 3) := by decide +kernel
theorem dX8_total_130 : decode cX8_total 130 = .ok (.bipush 7, 2) := by decide +kernel
theorem dX8_total_132 : decode cX8_total 132 = .ok (.iaload, 1) := by decide +kernel
theorem dX8_total_133 : decode cX8_total 133 = .ok (.ireturn, 1) := by decide +kernel
theorem dX8_total_134 : decode cX8_total 134 = .ok (.aload_n 0, 1) := by decide +kernel
theorem dX8_total_135 : decode cX8_total 135 = .ok (.getfield 7, 3) := by decide +kernel
theorem dX8_total_138 : decode cX8_total 138 = .ok (.bipush 8, 2) := by decide +kernel
theorem dX8_total_140 : decode cX8_total 140 = .ok (.iaload, 1) := by decide +kernel
theorem dX8_total_141 : decode cX8_total 141 = .ok (.ireturn, 1) := by decide +kernel
theorem dX8_total_142 : decode cX8_total 142 = .ok (.aload_n 0, 1) := by decide +kernel
theorem dX8_total_143 : decode cX8_total 143 = .ok (.getfield 7, 3) := by decide +kernel
theorem dX8_total_146 : decode cX8_total 146 = .ok (.bipush 10, 2) := by decide +kernel
theorem dX8_total_148 : decode cX8_total 148 = .ok (.iaload, 1) := by decide +kernel
theorem dX8_total_149 : decode cX8_total 149 = .ok (.ireturn, 1) := by decide +kernel
theorem dX8_total_150 : decode cX8_total 150 = .ok (.aload_n 0, 1) := by decide +kernel
theorem dX8_total_151 : decode cX8_total 151 = .ok (.sipush 2300, 3) := by decide +kernel
theorem dX8_total_154 : decode cX8_total 154 = .ok (.invokevirtual 140, 3) := by decide +kernel
theorem dX8_total_157 : decode cX8_total 157 = .ok (.ireturn, 1) := by decide +kernel
theorem dX8_total_158 : decode cX8_total 158 = .ok (.aload_n 0, 1) := by decide +kernel
theorem dX8_total_159 : decode cX8_total 159 = .ok (.sipush 2000, 3) := by decide +kernel
theorem dX8_total_162 : decode cX8_total 162 = .ok (.invokevirtual 140, 3) := by decide +kernel
theorem dX8_total_165 : decode cX8_total 165 = .ok (.ireturn, 1) := by decide +kernel
theorem dX8_total_166 : decode cX8_total 166 = .ok (.aload_n 0, 1) := by decide +kernel
theorem dX8_total_167 : decode cX8_total 167 = .ok (.sipush 1400, 3) := by decide +kernel
theorem dX8_total_170 : decode cX8_total 170 = .ok (.invokevirtual 140, 3) := by decide +kernel
theorem dX8_total_173 : decode cX8_total 173 = .ok (.ireturn, 1) := by decide +kernel
theorem dX8_total_174 : decode cX8_total 174 = .ok (.aload_n 0, 1) := by decide +kernel
theorem dX8_total_175 : decode cX8_total 175 = .ok (.sipush 1700, 3) := by decide +kernel
theorem dX8_total_178 : decode cX8_total 178 = .ok (.invokevirtual 140, 3) := by decide +kernel
theorem dX8_total_181 : decode cX8_total 181 = .ok (.ireturn, 1) := by decide +kernel
theorem dX8_total_182 : decode cX8_total 182 = .ok (.aload_n 0, 1) := by decide +kernel
theorem dX8_total_183 : decode cX8_total 183 = .ok (.getfield 29, 3) := by decide +kernel
theorem dX8_total_186 : decode cX8_total 186 = .ok (.ireturn, 1) := by decide +kernel
theorem dX8_total_187 : decode cX8_total 187 = .ok (.aload_n 0, 1) := by decide +kernel
theorem dX8_total_188 : decode cX8_total 188 = .ok (.getfield 143, 3) := by decide +kernel
theorem dX8_total_191 : decode cX8_total 191 = .ok (.ireturn, 1) := by decide +kernel
theorem dX8_total_192 : decode cX8_total 192 = .ok (.aload_n 0, 1) := by decide +kernel
theorem dX8_total_193 : decode cX8_total 193 = .ok (.iconst 1, 1) := by decide +kernel
theorem dX8_total_194 : decode cX8_total 194 = .ok (.invokevirtual 44, 3) := by decide +kernel
theorem dX8_total_197 : decode cX8_total 197 = .ok (.ireturn, 1) := by decide +kernel
theorem dX8_lost_0 : decode cX8_lost 0 = .ok (.aload_n 0, 1) := by decide +kernel
theorem dX8_lost_1 : decode cX8_lost 1 = .ok (.iconst 0, 1) := by decide +kernel
theorem dX8_lost_2 : decode cX8_lost 2 = .ok (.putfield 25, 3) := by decide +kernel
theorem dX8_lost_5 : decode cX8_lost 5 = .ok (.iload_n 1, 1) := by decide +kernel
theorem dX8_lost_6 : decode cX8_lost 6 = .ok (.iconst 1, 1) := by decide +kernel
theorem dX8_lost_7 : decode cX8_lost 7 = .ok (.bipush 6, 2) := by decide +kernel
theorem dX8_lost_9 : decode cX8_lost 9 = .ok (.invokestatic 40, 3) := by decide +kernel
theorem dX8_lost_12 : decode cX8_lost 12 = .ok (.ifCond .eq 12, 3) := by decide +kernel
theorem dX8_lost_15 : decode cX8_lost 15 = .ok (.aload_n 0, 1) := by decide +kernel
theorem dX8_lost_16 : decode cX8_lost 16 = .ok (.iload_n 1, 1) := by decide +kernel
theorem dX8_lost_17 : decode cX8_lost 17 = .ok (.iload_n 1, 1) := by decide +kernel
theorem dX8_lost_18 : decode cX8_lost 18 = .ok (.invokevirtual 137, 3) := by decide +kernel
theorem dX8_lost_21 : decode cX8_lost 21 = .ok (.goto 8, 3) := by decide +kernel
theorem dX8_lost_24 : decode cX8_lost 24 = .ok (.aload_n 0, 1) := by decide +kernel
theorem dX8_lost_25 : decode cX8_lost 25 = .ok (.iconst 1, 1) := by decide +kernel
theorem dX8_lost_26 : decode cX8_lost 26 = .ok (.invokevirtual 44, 3) := by decide +kernel
theorem dX8_lost_29 : decode cX8_lost 29 = .ok (.ireturn, 1) := by decide +kernel
theorem dX8_setting_0 : decode cX8_setting 0 = .ok (.aload_n 0, 1) := by decide +kernel
theorem dX8_setting_1 : decode cX8_setting 1 = .ok (.iconst 0, 1) := by decide +kernel
theorem dX8_setting_2 : decode cX8_setting 2 = .ok (.putfield 25, 3) := by decide +kernel
theorem dX8_setting_5 : decode cX8_setting 5 = .ok (.iload_n 1, 1) := by decide +kernel
theorem dX8_setting_6 : decode cX8_setting 6 = .ok (.iconst 0, 1) := by decide +kernel
theorem dX8_setting_7 : decode cX8_setting 7 = .ok (.iconst 5, 1) := by decide +kernel
theorem dX8_setting_8 : decode cX8_setting 8 = .ok (.invokestatic 40, 3) := by decide +kernel
theorem dX8_setting_11 : decode cX8_setting 11 = .ok (.ifCond .eq 14, 3) := by decide +kernel
theorem dX8_setting_14 : decode cX8_setting 14 = .ok (.aload_n 0, 1) := by decide +kernel
theorem dX8_setting_15 : decode cX8_setting 15 = .ok (.getfield 7, 3) := by decide +kernel
theorem dX8_setting_18 : decode cX8_setting 18 = .ok (.iconst 1, 1) := by decide +kernel
theorem dX8_setting_19 : decode cX8_setting 19 = .ok (.iload_n 1, 1) := by decide +kernel
theorem dX8_setting_20 : decode cX8_setting 20 = .ok (.iadd, 1) := by decide +kernel
theorem dX8_setting_21 : decode cX8_setting 21 = .ok (.iaload, 1) := by decide +kernel
theorem dX8_setting_22 : decode cX8_setting 22 = .ok (.goto 8, 3) := by decide +kernel
theorem dX8_setting_25 : decode cX8_setting 25 = .ok (.aload_n 0, 1) := by decide +kernel
theorem dX8_setting_26 : decode cX8_setting 26 = .ok (.iconst 1, 1) := by decide +kernel
theorem dX8_setting_27 : decode cX8_setting 27 = .ok (.invokevirtual 44, 3) := by decide +kernel
theorem dX8_setting_30 : decode cX8_setting 30 = .ok (.ireturn, 1) := by decide +kernel
theorem dX8_routeAt_0 : decode cX8_routeAt 0 = .ok (.aload_n 0, 1) := by decide +kernel
theorem dX8_routeAt_1 : decode cX8_routeAt 1 = .ok (.iconst 0, 1) := by decide +kernel
theorem dX8_routeAt_2 : decode cX8_routeAt 2 = .ok (.putfield 25, 3) := by decide +kernel
theorem dX8_routeAt_5 : decode cX8_routeAt 5 = .ok (.iload_n 1, 1) := by decide +kernel
theorem dX8_routeAt_6 : decode cX8_routeAt 6 = .ok (.ifCond .ge 9, 3) := by decide +kernel
theorem dX8_routeAt_9 : decode cX8_routeAt 9 = .ok (.aload_n 0, 1) := by decide +kernel
theorem dX8_routeAt_10 : decode cX8_routeAt 10 = .ok (.iconst 1, 1) := by decide +kernel
theorem dX8_routeAt_11 : decode cX8_routeAt 11 = .ok (.invokevirtual 44, 3) := by decide +kernel
theorem dX8_routeAt_14 : decode cX8_routeAt 14 = .ok (.ireturn, 1) := by decide +kernel
theorem dX8_routeAt_15 : decode cX8_routeAt 15 = .ok (.iload_n 1, 1) := by decide +kernel
theorem dX8_routeAt_16 : decode cX8_routeAt 16 = .ok (.aload_n 0, 1) := by decide +kernel
theorem dX8_routeAt_17 : decode cX8_routeAt 17 = .ok (.getfield 7, 3) := by decide +kernel
theorem dX8_routeAt_20 : decode cX8_routeAt 20 = .ok (.bipush 8, 2) := by decide +kernel
theorem dX8_routeAt_22 : decode cX8_routeAt 22 = .ok (.iaload, 1) := by decide +kernel
theorem dX8_routeAt_23 : decode cX8_routeAt 23 = .ok (.if_icmp .ge 28, 3) := by decide +kernel
theorem dX8_routeAt_26 : decode cX8_routeAt 26 = .ok (.bipush 10, 2) := by decide +kernel
theorem dX8_routeAt_28 : decode cX8_routeAt 28 = .ok (.aload_n 0, 1) := by decide +kernel
theorem dX8_routeAt_29 : decode cX8_routeAt 29 = .ok (.getfield 7, 3) := by decide +kernel
theorem dX8_routeAt_32 : decode cX8_routeAt 32 = .ok (.bipush 46, 2) := by decide +kernel
theorem dX8_routeAt_34 : decode cX8_routeAt 34 = .ok (.iload_n 1, 1) := by decide +kernel
theorem dX8_routeAt_35 : decode cX8_routeAt 35 = .ok (.iadd, 1) := by decide +kernel
theorem dX8_routeAt_36 : decode cX8_routeAt 36 = .ok (.iaload, 1) := by decide +kernel
theorem dX8_routeAt_37 : decode cX8_routeAt 37 = .ok (.imul, 1) := by decide +kernel
theorem dX8_routeAt_38 : decode cX8_routeAt 38 = .ok (.aload_n 0, 1) := by decide +kernel
theorem dX8_routeAt_39 : decode cX8_routeAt 39 = .ok (.getfield 7, 3) := by decide +kernel
theorem dX8_routeAt_42 : decode cX8_routeAt 42 = .ok (.bipush 76, 2) := by decide +kernel
theorem dX8_routeAt_44 : decode cX8_routeAt 44 = .ok (.iload_n 1, 1) := by decide +kernel
theorem dX8_routeAt_45 : decode cX8_routeAt 45 = .ok (.iadd, 1) := by decide +kernel
theorem dX8_routeAt_46 : decode cX8_routeAt 46 = .ok (.iaload, 1) := by decide +kernel
theorem dX8_routeAt_47 : decode cX8_routeAt 47 = .ok (.iadd, 1) := by decide +kernel
theorem dX8_routeAt_48 : decode cX8_routeAt 48 = .ok (.goto 4, 3) := by decide +kernel
theorem dX8_routeAt_51 : decode cX8_routeAt 51 = .ok (.iconst (-1), 1) := by decide +kernel
theorem dX8_routeAt_52 : decode cX8_routeAt 52 = .ok (.ireturn, 1) := by decide +kernel
theorem dX8_gapAhead_0 : decode cX8_gapAhead 0 = .ok (.aload_n 0, 1) := by decide +kernel
theorem dX8_gapAhead_1 : decode cX8_gapAhead 1 = .ok (.iconst 0, 1) := by decide +kernel
theorem dX8_gapAhead_2 : decode cX8_gapAhead 2 = .ok (.putfield 25, 3) := by decide +kernel
theorem dX8_gapAhead_5 : decode cX8_gapAhead 5 = .ok (.aload_n 0, 1) := by decide +kernel
theorem dX8_gapAhead_6 : decode cX8_gapAhead 6 = .ok (.iload_n 1, 1) := by decide +kernel
theorem dX8_gapAhead_7 : decode cX8_gapAhead 7 = .ok (.invokevirtual 131, 3) := by decide +kernel
theorem dX8_gapAhead_10 : decode cX8_gapAhead 10 = .ok (.ifCond .ne 9, 3) := by decide +kernel
theorem dX8_gapAhead_13 : decode cX8_gapAhead 13 = .ok (.aload_n 0, 1) := by decide +kernel
theorem dX8_gapAhead_14 : decode cX8_gapAhead 14 = .ok (.iconst 1, 1) := by decide +kernel
theorem dX8_gapAhead_15 : decode cX8_gapAhead 15 = .ok (.invokevirtual 44, 3) := by decide +kernel
theorem dX8_gapAhead_18 : decode cX8_gapAhead 18 = .ok (.ireturn, 1) := by decide +kernel
theorem dX8_gapAhead_19 : decode cX8_gapAhead 19 = .ok (.aload_n 0, 1) := by decide +kernel
theorem dX8_gapAhead_20 : decode cX8_gapAhead 20 = .ok (.iload_n 1, 1) := by decide +kernel
theorem dX8_gapAhead_21 : decode cX8_gapAhead 21 = .ok (.invokevirtual 32, 3) := by decide +kernel
theorem dX8_gapAhead_24 : decode cX8_gapAhead 24 = .ok (.ifCond .ne 9, 3) := by decide +kernel
theorem dX8_gapAhead_27 : decode cX8_gapAhead 27 = .ok (.aload_n 0, 1) := by decide +kernel
theorem dX8_gapAhead_28 : decode cX8_gapAhead 28 = .ok (.iconst 2, 1) := by decide +kernel
theorem dX8_gapAhead_29 : decode cX8_gapAhead 29 = .ok (.invokevirtual 44, 3) := by decide +kernel
theorem dX8_gapAhead_32 : decode cX8_gapAhead 32 = .ok (.ireturn, 1) := by decide +kernel
theorem dX8_gapAhead_33 : decode cX8_gapAhead 33 = .ok (.aload_n 0, 1) := by decide +kernel
theorem dX8_gapAhead_34 : decode cX8_gapAhead 34 = .ok (.iload_n 1, 1) := by decide +kernel
theorem dX8_gapAhead_35 : decode cX8_gapAhead 35 = .ok (.invokevirtual 93, 3) := by decide +kernel
theorem dX8_gapAhead_38 : decode cX8_gapAhead 38 = .ok (.istore_n 2, 1) := by decide +kernel
theorem dX8_gapAhead_39 : decode cX8_gapAhead 39 = .ok (.iload_n 2, 1) := by decide +kernel
theorem dX8_gapAhead_40 : decode cX8_gapAhead 40 = .ok (.iconst (-1), 1) := by decide +kernel
theorem dX8_gapAhead_41 : decode cX8_gapAhead 41 = .ok (.if_icmp .ne 7, 3) := by decide +kernel
theorem dX8_gapAhead_44 : decode cX8_gapAhead 44 = .ok (.iconst (-1), 1) := by decide +kernel
theorem dX8_gapAhead_45 : decode cX8_gapAhead 45 = .ok (.goto 19, 3) := by decide +kernel
theorem dX8_gapAhead_48 : decode cX8_gapAhead 48 = .ok (.aload_n 0, 1) := by decide +kernel
theorem dX8_gapAhead_49 : decode cX8_gapAhead 49 = .ok (.iload_n 2, 1) := by decide +kernel
theorem dX8_gapAhead_50 : decode cX8_gapAhead 50 = .ok (.invokevirtual 99, 3) := by decide +kernel
theorem dX8_gapAhead_53 : decode cX8_gapAhead 53 = .ok (.aload_n 0, 1) := by decide +kernel
theorem dX8_gapAhead_54 : decode cX8_gapAhead 54 = .ok (.getfield 7, 3) := by decide +kernel
theorem dX8_gapAhead_57 : decode cX8_gapAhead 57 = .ok (.sipush 500, 3) := by decide +kernel
theorem dX8_gapAhead_60 : decode cX8_gapAhead 60 = .ok (.iload_n 1, 1) := by decide +kernel
theorem dX8_gapAhead_61 : decode cX8_gapAhead 61 = .ok (.iadd, 1) := by decide +kernel
theorem dX8_gapAhead_62 : decode cX8_gapAhead 62 = .ok (.iaload, 1) := by decide +kernel
theorem dX8_gapAhead_63 : decode cX8_gapAhead 63 = .ok (.isub, 1) := by decide +kernel
theorem dX8_gapAhead_64 : decode cX8_gapAhead 64 = .ok (.ireturn, 1) := by decide +kernel
theorem dX8_isRankedBefore_0 : decode cX8_isRankedBefore 0 = .ok (.aload_n 0, 1) := by decide +kernel
theorem dX8_isRankedBefore_1 : decode cX8_isRankedBefore 1 = .ok (.iload_n 1, 1) := by decide +kernel
theorem dX8_isRankedBefore_2 : decode cX8_isRankedBefore 2 = .ok (.invokevirtual 115, 3) := by decide +kernel
theorem dX8_isRankedBefore_5 : decode cX8_isRankedBefore 5 = .ok (.istore_n 3, 1) := by decide +kernel
theorem dX8_isRankedBefore_6 : decode cX8_isRankedBefore 6 = .ok (.aload_n 0, 1) := by decide +kernel
theorem dX8_isRankedBefore_7 : decode cX8_isRankedBefore 7 = .ok (.iload_n 2, 1) := by decide +kernel
theorem dX8_isRankedBefore_8 : decode cX8_isRankedBefore 8 = .ok (.invokevirtual 115, 3) := by decide +kernel
theorem dX8_isRankedBefore_11 : decode cX8_isRankedBefore 11 = .ok (.istore 4, 2) := by decide +kernel
theorem dX8_isRankedBefore_13 : decode cX8_isRankedBefore 13 = .ok (.iload_n 3, 1) := by decide +kernel
theorem dX8_isRankedBefore_14 : decode cX8_isRankedBefore 14 = .ok (.iconst (-1), 1) := by decide +kernel
theorem dX8_isRankedBefore_15 : decode cX8_isRankedBefore 15 = .ok (.if_icmp .eq 9, 3) := by decide +kernel
theorem dX8_isRankedBefore_18 : decode cX8_isRankedBefore 18 = .ok (.iload 4, 2) := by decide +kernel
theorem dX8_isRankedBefore_20 : decode cX8_isRankedBefore 20 = .ok (.iconst (-1), 1) := by decide +kernel
theorem dX8_isRankedBefore_21 : decode cX8_isRankedBefore 21 = .ok (.if_icmp .ne 25, 3) := by decide +kernel
theorem dX8_isRankedBefore_24 : decode cX8_isRankedBefore 24 = .ok (.iload_n 3, 1) := by decide +kernel
theorem dX8_isRankedBefore_25 : decode cX8_isRankedBefore 25 = .ok (.iconst (-1), 1) := by decide +kernel
theorem dX8_isRankedBefore_26 : decode cX8_isRankedBefore 26 = .ok (.if_icmp .ne 14, 3) := by decide +kernel
theorem dX8_isRankedBefore_29 : decode cX8_isRankedBefore 29 = .ok (.iload 4, 2) := by decide +kernel
theorem dX8_isRankedBefore_31 : decode cX8_isRankedBefore 31 = .ok (.iconst (-1), 1) := by decide +kernel
theorem dX8_isRankedBefore_32 : decode cX8_isRankedBefore 32 = .ok (.if_icmp .ne 12, 3) := by decide +kernel
theorem dX8_isRankedBefore_35 : decode cX8_isRankedBefore 35 = .ok (.iload_n 1, 1) := by decide +kernel
theorem dX8_isRankedBefore_36 : decode cX8_isRankedBefore 36 = .ok (.iload_n 2, 1) := by decide +kernel
theorem dX8_isRankedBefore_37 : decode cX8_isRankedBefore 37 = .ok (.if_icmp .ge 7, 3) := by decide +kernel
theorem dX8_isRankedBefore_40 : decode cX8_isRankedBefore 40 = .ok (.iconst 1, 1) := by decide +kernel
theorem dX8_isRankedBefore_41 : decode cX8_isRankedBefore 41 = .ok (.goto 4, 3) := by decide +kernel
theorem dX8_isRankedBefore_44 : decode cX8_isRankedBefore 44 = .ok (.iconst 0, 1) := by decide +kernel
theorem dX8_isRankedBefore_45 : decode cX8_isRankedBefore 45 = .ok (.ireturn, 1) := by decide +kernel
theorem dX8_isRankedBefore_46 : decode cX8_isRankedBefore 46 = .ok (.aload_n 0, 1) := by decide +kernel
theorem dX8_isRankedBefore_47 : decode cX8_isRankedBefore 47 = .ok (.getfield 7, 3) := by decide +kernel
theorem dX8_isRankedBefore_50 : decode cX8_isRankedBefore 50 = .ok (.bipush 16, 2) := by decide +kernel
theorem dX8_isRankedBefore_52 : decode cX8_isRankedBefore 52 = .ok (.iload_n 3, 1) := by decide +kernel
theorem dX8_isRankedBefore_53 : decode cX8_isRankedBefore 53 = .ok (.iadd, 1) := by decide +kernel
theorem dX8_isRankedBefore_54 : decode cX8_isRankedBefore 54 = .ok (.iaload, 1) := by decide +kernel
theorem dX8_isRankedBefore_55 : decode cX8_isRankedBefore 55 = .ok (.aload_n 0, 1) := by decide +kernel
theorem dX8_isRankedBefore_56 : decode cX8_isRankedBefore 56 = .ok (.iload_n 1, 1) := by decide +kernel
theorem dX8_isRankedBefore_57 : decode cX8_isRankedBefore 57 = .ok (.invokevirtual 118, 3) := by decide +kernel
theorem dX8_isRankedBefore_60 : decode cX8_isRankedBefore 60 = .ok (.isub, 1) := by decide +kernel
theorem dX8_isRankedBefore_61 : decode cX8_isRankedBefore 61 = .ok (.istore 5, 2) := by decide +kernel
theorem dX8_isRankedBefore_63 : decode cX8_isRankedBefore 63 = .ok (.aload_n 0, 1) := by decide +kernel
theorem dX8_isRankedBefore_64 : decode cX8_isRankedBefore 64 = .ok (.getfield 7, 3) := by decide +kernel
theorem dX8_isRankedBefore_67 : decode cX8_isRankedBefore 67 = .ok (.bipush 16, 2) := by decide +kernel
theorem dX8_isRankedBefore_69 : decode cX8_isRankedBefore 69 = .ok (.iload 4, 2) := by decide +kernel
theorem dX8_isRankedBefore_71 : decode cX8_isRankedBefore 71 = .ok (.iadd, 1) := by decide +kernel
theorem dX8_isRankedBefore_72 : decode cX8_isRankedBefore 72 = .ok (.iaload, 1) := by decide +kernel
theorem dX8_isRankedBefore_73 : decode cX8_isRankedBefore 73 = .ok (.aload_n 0, 1) := by decide +kernel
theorem dX8_isRankedBefore_74 : decode cX8_isRankedBefore 74 = .ok (.iload_n 2, 1) := by decide +kernel
theorem dX8_isRankedBefore_75 : decode cX8_isRankedBefore 75 = .ok (.invokevirtual 118, 3) := by decide +kernel
theorem dX8_isRankedBefore_78 : decode cX8_isRankedBefore 78 = .ok (.isub, 1) := by decide +kernel
theorem dX8_isRankedBefore_79 : decode cX8_isRankedBefore 79 = .ok (.istore 6, 2) := by decide +kernel
theorem dX8_isRankedBefore_81 : decode cX8_isRankedBefore 81 = .ok (.iload 5, 2) := by decide +kernel
theorem dX8_isRankedBefore_83 : decode cX8_isRankedBefore 83 = .ok (.iload 6, 2) := by decide +kernel
theorem dX8_isRankedBefore_85 : decode cX8_isRankedBefore 85 = .ok (.if_icmp .lt 15, 3) := by decide +kernel
theorem dX8_isRankedBefore_88 : decode cX8_isRankedBefore 88 = .ok (.iload 5, 2) := by decide +kernel
theorem dX8_isRankedBefore_90 : decode cX8_isRankedBefore 90 = .ok (.iload 6, 2) := by decide +kernel
theorem dX8_isRankedBefore_92 : decode cX8_isRankedBefore 92 = .ok (.if_icmp .ne 12, 3) := by decide +kernel
theorem dX8_isRankedBefore_95 : decode cX8_isRankedBefore 95 = .ok (.iload_n 1, 1) := by decide +kernel
theorem dX8_isRankedBefore_96 : decode cX8_isRankedBefore 96 = .ok (.iload_n 2, 1) := by decide +kernel
theorem dX8_isRankedBefore_97 : decode cX8_isRankedBefore 97 = .ok (.if_icmp .ge 7, 3) := by decide +kernel
theorem dX8_isRankedBefore_100 : decode cX8_isRankedBefore 100 = .ok (.iconst 1, 1) := by decide +kernel
theorem dX8_isRankedBefore_101 : decode cX8_isRankedBefore 101 = .ok (.goto 4, 3) := by decide +kernel
theorem dX8_isRankedBefore_104 : decode cX8_isRankedBefore 104 = .ok (.iconst 0, 1) := by decide +kernel
theorem dX8_isRankedBefore_105 : decode cX8_isRankedBefore 105 = .ok (.ireturn, 1) := by decide +kernel
theorem dX8_ranked_0 : decode cX8_ranked 0 = .ok (.aload_n 0, 1) := by decide +kernel
theorem dX8_ranked_1 : decode cX8_ranked 1 = .ok (.iconst 0, 1) := by decide +kernel
theorem dX8_ranked_2 : decode cX8_ranked 2 = .ok (.putfield 25, 3) := by decide +kernel
theorem dX8_ranked_5 : decode cX8_ranked 5 = .ok (.iload_n 1, 1) := by decide +kernel
theorem dX8_ranked_6 : decode cX8_ranked 6 = .ok (.ifCond .ge 9, 3) := by decide +kernel
theorem dX8_ranked_9 : decode cX8_ranked 9 = .ok (.aload_n 0, 1) := by decide +kernel
theorem dX8_ranked_10 : decode cX8_ranked 10 = .ok (.iconst 1, 1) := by decide +kernel
theorem dX8_ranked_11 : decode cX8_ranked 11 = .ok (.invokevirtual 44, 3) := by decide +kernel
theorem dX8_ranked_14 : decode cX8_ranked 14 = .ok (.ireturn, 1) := by decide +kernel
theorem dX8_ranked_15 : decode cX8_ranked 15 = .ok (.iconst 0, 1) := by decide +kernel
theorem dX8_ranked_16 : decode cX8_ranked 16 = .ok (.istore_n 2, 1) := by decide +kernel
theorem dX8_ranked_17 : decode cX8_ranked 17 = .ok (.iload_n 2, 1) := by decide +kernel
theorem dX8_ranked_18 : decode cX8_ranked 18 = .ok (.aload_n 0, 1) := by decide +kernel
theorem dX8_ranked_19 : decode cX8_ranked 19 = .ok (.getfield 7, 3) := by decide +kernel
theorem dX8_ranked_22 : decode cX8_ranked 22 = .ok (.bipush 9, 2) := by decide +kernel
theorem dX8_ranked_24 : decode cX8_ranked 24 = .ok (.iaload, 1) := by decide +kernel
theorem dX8_ranked_25 : decode cX8_ranked 25 = .ok (.if_icmp .ge 91, 3) := by decide +kernel
theorem dX8_ranked_28 : decode cX8_ranked 28 = .ok (.iconst 0, 1) := by decide +kernel
theorem dX8_ranked_29 : decode cX8_ranked 29 = .ok (.istore_n 3, 1) := by decide +kernel
theorem dX8_ranked_30 : decode cX8_ranked 30 = .ok (.iconst 0, 1) := by decide +kernel
theorem dX8_ranked_31 : decode cX8_ranked 31 = .ok (.istore 4, 2) := by decide +kernel
theorem dX8_ranked_33 : decode cX8_ranked 33 = .ok (.iload 4, 2) := by decide +kernel
theorem dX8_ranked_35 : decode cX8_ranked 35 = .ok (.aload_n 0, 1) := by decide +kernel
theorem dX8_ranked_36 : decode cX8_ranked 36 = .ok (.getfield 7, 3) := by decide +kernel
theorem dX8_ranked_39 : decode cX8_ranked 39 = .ok (.bipush 9, 2) := by decide +kernel
theorem dX8_ranked_41 : decode cX8_ranked 41 = .ok (.iaload, 1) := by decide +kernel
theorem dX8_ranked_42 : decode cX8_ranked 42 = .ok (.if_icmp .ge 53, 3) := by decide +kernel
theorem dX8_ranked_45 : decode cX8_ranked 45 = .ok (.aload_n 0, 1) := by decide +kernel
theorem dX8_ranked_46 : decode cX8_ranked 46 = .ok (.iload_n 2, 1) := by decide +kernel
theorem dX8_ranked_47 : decode cX8_ranked 47 = .ok (.invokevirtual 32, 3) := by decide +kernel
theorem dX8_ranked_50 : decode cX8_ranked 50 = .ok (.ifCond .eq 45, 3) := by decide +kernel
theorem dX8_ranked_53 : decode cX8_ranked 53 = .ok (.iload_n 3, 1) := by decide +kernel
theorem dX8_ranked_54 : decode cX8_ranked 54 = .ok (.aload_n 0, 1) := by decide +kernel
theorem dX8_ranked_55 : decode cX8_ranked 55 = .ok (.iload 4, 2) := by decide +kernel
theorem dX8_ranked_57 : decode cX8_ranked 57 = .ok (.invokevirtual 32, 3) := by decide +kernel
theorem dX8_ranked_60 : decode cX8_ranked 60 = .ok (.ifCond .eq 23, 3) := by decide +kernel
theorem dX8_ranked_63 : decode cX8_ranked 63 = .ok (.iload 4, 2) := by decide +kernel
theorem dX8_ranked_65 : decode cX8_ranked 65 = .ok (.iload_n 2, 1) := by decide +kernel
theorem dX8_ranked_66 : decode cX8_ranked 66 = .ok (.if_icmp .eq 17, 3) := by decide +kernel
theorem dX8_ranked_69 : decode cX8_ranked 69 = .ok (.aload_n 0, 1) := by decide +kernel
theorem dX8_ranked_70 : decode cX8_ranked 70 = .ok (.iload 4, 2) := by decide +kernel
theorem dX8_ranked_72 : decode cX8_ranked 72 = .ok (.iload_n 2, 1) := by decide +kernel
theorem dX8_ranked_73 : decode cX8_ranked 73 = .ok (.invokevirtual 146, 3) := by decide +kernel
theorem dX8_ranked_76 : decode cX8_ranked 76 = .ok (.ifCond .eq 7, 3) := by decide +kernel
theorem dX8_ranked_79 : decode cX8_ranked 79 = .ok (.iconst 1, 1) := by decide +kernel
theorem dX8_ranked_80 : decode cX8_ranked 80 = .ok (.goto 4, 3) := by decide +kernel
theorem dX8_ranked_83 : decode cX8_ranked 83 = .ok (.iconst 0, 1) := by decide +kernel
theorem dX8_ranked_84 : decode cX8_ranked 84 = .ok (.invokestatic 36, 3) := by decide +kernel
theorem dX8_ranked_87 : decode cX8_ranked 87 = .ok (.iadd, 1) := by decide +kernel
theorem dX8_ranked_88 : decode cX8_ranked 88 = .ok (.istore_n 3, 1) := by decide +kernel
theorem dX8_ranked_89 : decode cX8_ranked 89 = .ok (.iinc 4 1, 3) := by decide +kernel
theorem dX8_ranked_92 : decode cX8_ranked 92 = .ok (.goto (-59), 3) := by decide +kernel
theorem dX8_ranked_95 : decode cX8_ranked 95 = .ok (.aload_n 0, 1) := by decide +kernel
theorem dX8_ranked_96 : decode cX8_ranked 96 = .ok (.iload_n 2, 1) := by decide +kernel
theorem dX8_ranked_97 : decode cX8_ranked 97 = .ok (.invokevirtual 32, 3) := by decide +kernel
theorem dX8_ranked_100 : decode cX8_ranked 100 = .ok (.ifCond .eq 10, 3) := by decide +kernel
theorem dX8_ranked_103 : decode cX8_ranked 103 = .ok (.iload_n 3, 1) := by decide +kernel
theorem dX8_ranked_104 : decode cX8_ranked 104 = .ok (.iload_n 1, 1) := by decide +kernel
theorem dX8_ranked_105 : decode cX8_ranked 105 = .ok (.if_icmp .ne 5, 3) := by decide +kernel
theorem dX8_ranked_108 : decode cX8_ranked 108 = .ok (.iload_n 2, 1) := by decide +kernel
theorem dX8_ranked_109 : decode cX8_ranked 109 = .ok (.ireturn, 1) := by decide +kernel
theorem dX8_ranked_110 : decode cX8_ranked 110 = .ok (.iinc 2 1, 3) := by decide +kernel
theorem dX8_ranked_113 : decode cX8_ranked 113 = .ok (.goto (-96), 3) := by decide +kernel
theorem dX8_ranked_116 : decode cX8_ranked 116 = .ok (.iconst (-1), 1) := by decide +kernel
theorem dX8_ranked_117 : decode cX8_ranked 117 = .ok (.ireturn, 1) := by decide +kernel
theorem dX8_share_0 : decode cX8_share 0 = .ok (.aload_n 0, 1) := by decide +kernel
theorem dX8_share_1 : decode cX8_share 1 = .ok (.iconst 0, 1) := by decide +kernel
theorem dX8_share_2 : decode cX8_share 2 = .ok (.putfield 25, 3) := by decide +kernel
theorem dX8_share_5 : decode cX8_share 5 = .ok (.aload_n 0, 1) := by decide +kernel
theorem dX8_share_6 : decode cX8_share 6 = .ok (.getfield 7, 3) := by decide +kernel
theorem dX8_share_9 : decode cX8_share 9 = .ok (.bipush 9, 2) := by decide +kernel
theorem dX8_share_11 : decode cX8_share 11 = .ok (.iaload, 1) := by decide +kernel
theorem dX8_share_12 : decode cX8_share 12 = .ok (.aload_n 0, 1) := by decide +kernel
theorem dX8_share_13 : decode cX8_share 13 = .ok (.invokevirtual 54, 3) := by decide +kernel
theorem dX8_share_16 : decode cX8_share 16 = .ok (.isub, 1) := by decide +kernel
theorem dX8_share_17 : decode cX8_share 17 = .ok (.istore_n 1, 1) := by decide +kernel
theorem dX8_share_18 : decode cX8_share 18 = .ok (.iload_n 1, 1) := by decide +kernel
theorem dX8_share_19 : decode cX8_share 19 = .ok (.ifCond .ne 7, 3) := by decide +kernel
theorem dX8_share_22 : decode cX8_share 22 = .ok (.dconst 1, 1) := by decide +kernel
theorem dX8_share_23 : decode cX8_share 23 = .ok (.goto 15, 3) := by decide +kernel
theorem dX8_share_26 : decode cX8_share 26 = .ok (.aload_n 0, 1) := by decide +kernel
theorem dX8_share_27 : decode cX8_share 27 = .ok (.bipush 10, 2) := by decide +kernel
theorem dX8_share_29 : decode cX8_share 29 = .ok (.bipush 15, 2) := by decide +kernel
theorem dX8_share_31 : decode cX8_share 31 = .ok (.invokevirtual 137, 3) := by decide +kernel
theorem dX8_share_34 : decode cX8_share 34 = .ok (.i2d, 1) := by decide +kernel
theorem dX8_share_35 : decode cX8_share 35 = .ok (.iload_n 1, 1) := by decide +kernel
theorem dX8_share_36 : decode cX8_share 36 = .ok (.i2d, 1) := by decide +kernel
theorem dX8_share_37 : decode cX8_share 37 = .ok (.ddiv, 1) := by decide +kernel
theorem dX8_share_38 : decode cX8_share 38 = .ok (.dreturn, 1) := by decide +kernel
theorem dX8_beginTrial_0 : decode cX8_beginTrial 0 = .ok (.iconst 0, 1) := by decide +kernel
theorem dX8_beginTrial_1 : decode cX8_beginTrial 1 = .ok (.istore_n 1, 1) := by decide +kernel
theorem dX8_beginTrial_2 : decode cX8_beginTrial 2 = .ok (.iload_n 1, 1) := by decide +kernel
theorem dX8_beginTrial_3 : decode cX8_beginTrial 3 = .ok (.sipush 3200, 3) := by decide +kernel
theorem dX8_beginTrial_6 : decode cX8_beginTrial 6 = .ok (.if_icmp .ge 21, 3) := by decide +kernel
theorem dX8_beginTrial_9 : decode cX8_beginTrial 9 = .ok (.aload_n 0, 1) := by decide +kernel
theorem dX8_beginTrial_10 : decode cX8_beginTrial 10 = .ok (.getfield 16, 3) := by decide +kernel
theorem dX8_beginTrial_13 : decode cX8_beginTrial 13 = .ok (.iload_n 1, 1) := by decide +kernel
theorem dX8_beginTrial_14 : decode cX8_beginTrial 14 = .ok (.aload_n 0, 1) := by decide +kernel
theorem dX8_beginTrial_15 : decode cX8_beginTrial 15 = .ok (.getfield 7, 3) := by decide +kernel
theorem dX8_beginTrial_18 : decode cX8_beginTrial 18 = .ok (.iload_n 1, 1) := by decide +kernel
theorem dX8_beginTrial_19 : decode cX8_beginTrial 19 = .ok (.iaload, 1) := by decide +kernel
theorem dX8_beginTrial_20 : decode cX8_beginTrial 20 = .ok (.iastore, 1) := by decide +kernel
theorem dX8_beginTrial_21 : decode cX8_beginTrial 21 = .ok (.iinc 1 1, 3) := by decide +kernel
theorem dX8_beginTrial_24 : decode cX8_beginTrial 24 = .ok (.goto (-22), 3) := by decide +kernel
theorem dX8_beginTrial_27 : decode cX8_beginTrial 27 = .ok (.return_, 1) := by decide +kernel
theorem dX8_endTrial_0 : decode cX8_endTrial 0 = .ok (.iconst 0, 1) := by decide +kernel
theorem dX8_endTrial_1 : decode cX8_endTrial 1 = .ok (.istore_n 1, 1) := by decide +kernel
theorem dX8_endTrial_2 : decode cX8_endTrial 2 = .ok (.iload_n 1, 1) := by decide +kernel
theorem dX8_endTrial_3 : decode cX8_endTrial 3 = .ok (.sipush 3200, 3) := by decide +kernel
theorem dX8_endTrial_6 : decode cX8_endTrial 6 = .ok (.if_icmp .ge 21, 3) := by decide +kernel
theorem dX8_endTrial_9 : decode cX8_endTrial 9 = .ok (.aload_n 0, 1) := by decide +kernel
theorem dX8_endTrial_10 : decode cX8_endTrial 10 = .ok (.getfield 7, 3) := by decide +kernel
theorem dX8_endTrial_13 : decode cX8_endTrial 13 = .ok (.iload_n 1, 1) := by decide +kernel
theorem dX8_endTrial_14 : decode cX8_endTrial 14 = .ok (.aload_n 0, 1) := by decide +kernel
theorem dX8_endTrial_15 : decode cX8_endTrial 15 = .ok (.getfield 16, 3) := by decide +kernel
theorem dX8_endTrial_18 : decode cX8_endTrial 18 = .ok (.iload_n 1, 1) := by decide +kernel
theorem dX8_endTrial_19 : decode cX8_endTrial 19 = .ok (.iaload, 1) := by decide +kernel
theorem dX8_endTrial_20 : decode cX8_endTrial 20 = .ok (.iastore, 1) := by decide +kernel
theorem dX8_endTrial_21 : decode cX8_endTrial 21 = .ok (.iinc 1 1, 3) := by decide +kernel
theorem dX8_endTrial_24 : decode cX8_endTrial 24 = .ok (.goto (-22), 3) := by decide +kernel
theorem dX8_endTrial_27 : decode cX8_endTrial 27 = .ok (.return_, 1) := by decide +kernel
theorem dX8_fateOf_0 : decode cX8_fateOf 0 = .ok (.aload_n 0, 1) := by decide +kernel
theorem dX8_fateOf_1 : decode cX8_fateOf 1 = .ok (.iconst 0, 1) := by decide +kernel
theorem dX8_fateOf_2 : decode cX8_fateOf 2 = .ok (.putfield 25, 3) := by decide +kernel
theorem dX8_fateOf_5 : decode cX8_fateOf 5 = .ok (.aload_n 0, 1) := by decide +kernel
theorem dX8_fateOf_6 : decode cX8_fateOf 6 = .ok (.iload_n 1, 1) := by decide +kernel
theorem dX8_fateOf_7 : decode cX8_fateOf 7 = .ok (.invokevirtual 131, 3) := by decide +kernel
theorem dX8_fateOf_10 : decode cX8_fateOf 10 = .ok (.ifCond .ne 9, 3) := by decide +kernel
theorem dX8_fateOf_13 : decode cX8_fateOf 13 = .ok (.aload_n 0, 1) := by decide +kernel
theorem dX8_fateOf_14 : decode cX8_fateOf 14 = .ok (.iconst 1, 1) := by decide +kernel
theorem dX8_fateOf_15 : decode cX8_fateOf 15 = .ok (.invokevirtual 44, 3) := by decide +kernel
theorem dX8_fateOf_18 : decode cX8_fateOf 18 = .ok (.ireturn, 1) := by decide +kernel
theorem dX8_fateOf_19 : decode cX8_fateOf 19 = .ok (.aload_n 0, 1) := by decide +kernel
theorem dX8_fateOf_20 : decode cX8_fateOf 20 = .ok (.invokevirtual 149, 3) := by decide +kernel
theorem dX8_fateOf_23 : decode cX8_fateOf 23 = .ok (.aload_n 0, 1) := by decide +kernel
theorem dX8_fateOf_24 : decode cX8_fateOf 24 = .ok (.iload_n 1, 1) := by decide +kernel
theorem dX8_fateOf_25 : decode cX8_fateOf 25 = .ok (.invokevirtual 32, 3) := by decide +kernel
theorem dX8_fateOf_28 : decode cX8_fateOf 28 = .ok (.ifCond .eq 10, 3) := by decide +kernel
theorem dX8_fateOf_31 : decode cX8_fateOf 31 = .ok (.aload_n 0, 1) := by decide +kernel
theorem dX8_fateOf_32 : decode cX8_fateOf 32 = .ok (.invokevirtual 128, 3) := by decide +kernel
theorem dX8_fateOf_35 : decode cX8_fateOf 35 = .ok (.goto (-12), 3) := by decide +kernel
theorem dX8_fateOf_38 : decode cX8_fateOf 38 = .ok (.aload_n 0, 1) := by decide +kernel
theorem dX8_fateOf_39 : decode cX8_fateOf 39 = .ok (.getfield 7, 3) := by decide +kernel
theorem dX8_fateOf_42 : decode cX8_fateOf 42 = .ok (.sipush 800, 3) := by decide +kernel
theorem dX8_fateOf_45 : decode cX8_fateOf 45 = .ok (.iload_n 1, 1) := by decide +kernel
theorem dX8_fateOf_46 : decode cX8_fateOf 46 = .ok (.iadd, 1) := by decide +kernel
theorem dX8_fateOf_47 : decode cX8_fateOf 47 = .ok (.iaload, 1) := by decide +kernel
theorem dX8_fateOf_48 : decode cX8_fateOf 48 = .ok (.istore_n 2, 1) := by decide +kernel
theorem dX8_fateOf_49 : decode cX8_fateOf 49 = .ok (.aload_n 0, 1) := by decide +kernel
theorem dX8_fateOf_50 : decode cX8_fateOf 50 = .ok (.invokevirtual 152, 3) := by decide +kernel
theorem dX8_fateOf_53 : decode cX8_fateOf 53 = .ok (.iload_n 2, 1) := by decide +kernel
theorem dX8_fateOf_54 : decode cX8_fateOf 54 = .ok (.ireturn, 1) := by decide +kernel
theorem dX8_canEnter_0 : decode cX8_canEnter 0 = .ok (.aload_n 0, 1) := by decide +kernel
theorem dX8_canEnter_1 : decode cX8_canEnter 1 = .ok (.invokevirtual 96, 3) := by decide +kernel
theorem dX8_canEnter_4 : decode cX8_canEnter 4 = .ok (.istore_n 1, 1) := by decide +kernel
theorem dX8_canEnter_5 : decode cX8_canEnter 5 = .ok (.iload_n 1, 1) := by decide +kernel
theorem dX8_canEnter_6 : decode cX8_canEnter 6 = .ok (.iconst (-1), 1) := by decide +kernel
theorem dX8_canEnter_7 : decode cX8_canEnter 7 = .ok (.if_icmp .eq 26, 3) := by decide +kernel
theorem dX8_canEnter_10 : decode cX8_canEnter 10 = .ok (.aload_n 0, 1) := by decide +kernel
theorem dX8_canEnter_11 : decode cX8_canEnter 11 = .ok (.iload_n 1, 1) := by decide +kernel
theorem dX8_canEnter_12 : decode cX8_canEnter 12 = .ok (.invokevirtual 99, 3) := by decide +kernel
theorem dX8_canEnter_15 : decode cX8_canEnter 15 = .ok (.ifCond .lt 22, 3) := by decide +kernel
theorem dX8_canEnter_18 : decode cX8_canEnter 18 = .ok (.aload_n 0, 1) := by decide +kernel
theorem dX8_canEnter_19 : decode cX8_canEnter 19 = .ok (.iload_n 1, 1) := by decide +kernel
theorem dX8_canEnter_20 : decode cX8_canEnter 20 = .ok (.invokevirtual 99, 3) := by decide +kernel
theorem dX8_canEnter_23 : decode cX8_canEnter 23 = .ok (.aload_n 0, 1) := by decide +kernel
theorem dX8_canEnter_24 : decode cX8_canEnter 24 = .ok (.getfield 7, 3) := by decide +kernel
theorem dX8_canEnter_27 : decode cX8_canEnter 27 = .ok (.bipush 6, 2) := by decide +kernel
theorem dX8_canEnter_29 : decode cX8_canEnter 29 = .ok (.iaload, 1) := by decide +kernel
theorem dX8_canEnter_30 : decode cX8_canEnter 30 = .ok (.if_icmp .lt 7, 3) := by decide +kernel
theorem dX8_canEnter_33 : decode cX8_canEnter 33 = .ok (.iconst 1, 1) := by decide +kernel
theorem dX8_canEnter_34 : decode cX8_canEnter 34 = .ok (.goto 4, 3) := by decide +kernel
theorem dX8_canEnter_37 : decode cX8_canEnter 37 = .ok (.iconst 0, 1) := by decide +kernel
theorem dX8_canEnter_38 : decode cX8_canEnter 38 = .ok (.ireturn, 1) := by decide +kernel
theorem dX8_entryIn_0 : decode cX8_entryIn 0 = .ok (.aload_n 0, 1) := by decide +kernel
theorem dX8_entryIn_1 : decode cX8_entryIn 1 = .ok (.iconst 0, 1) := by decide +kernel
theorem dX8_entryIn_2 : decode cX8_entryIn 2 = .ok (.putfield 25, 3) := by decide +kernel
theorem dX8_entryIn_5 : decode cX8_entryIn 5 = .ok (.aload_n 0, 1) := by decide +kernel
theorem dX8_entryIn_6 : decode cX8_entryIn 6 = .ok (.invokevirtual 149, 3) := by decide +kernel
theorem dX8_entryIn_9 : decode cX8_entryIn 9 = .ok (.iconst 0, 1) := by decide +kernel
theorem dX8_entryIn_10 : decode cX8_entryIn 10 = .ok (.istore_n 1, 1) := by decide +kernel
theorem dX8_entryIn_11 : decode cX8_entryIn 11 = .ok (.aload_n 0, 1) := by decide +kernel
theorem dX8_entryIn_12 : decode cX8_entryIn 12 = .ok (.invokevirtual 155, 3) := by decide +kernel
theorem dX8_entryIn_15 : decode cX8_entryIn 15 = .ok (.ifCond .ne 13, 3) := by decide +kernel
theorem dX8_entryIn_18 : decode cX8_entryIn 18 = .ok (.aload_n 0, 1) := by decide +kernel
theorem dX8_entryIn_19 : decode cX8_entryIn 19 = .ok (.invokevirtual 128, 3) := by decide +kernel
theorem dX8_entryIn_22 : decode cX8_entryIn 22 = .ok (.iinc 1 1, 3) := by decide +kernel
theorem dX8_entryIn_25 : decode cX8_entryIn 25 = .ok (.goto (-14), 3) := by decide +kernel
theorem dX8_entryIn_28 : decode cX8_entryIn 28 = .ok (.aload_n 0, 1) := by decide +kernel
theorem dX8_entryIn_29 : decode cX8_entryIn 29 = .ok (.invokevirtual 152, 3) := by decide +kernel
theorem dX8_entryIn_32 : decode cX8_entryIn 32 = .ok (.iload_n 1, 1) := by decide +kernel
theorem dX8_entryIn_33 : decode cX8_entryIn 33 = .ok (.ireturn, 1) := by decide +kernel
theorem dX8_nextLeaving_0 : decode cX8_nextLeaving 0 = .ok (.aload_n 0, 1) := by decide +kernel
theorem dX8_nextLeaving_1 : decode cX8_nextLeaving 1 = .ok (.iconst 0, 1) := by decide +kernel
theorem dX8_nextLeaving_2 : decode cX8_nextLeaving 2 = .ok (.putfield 25, 3) := by decide +kernel
theorem dX8_nextLeaving_5 : decode cX8_nextLeaving 5 = .ok (.aload_n 0, 1) := by decide +kernel
theorem dX8_nextLeaving_6 : decode cX8_nextLeaving 6 = .ok (.invokevirtual 54, 3) := by decide +kernel
theorem dX8_nextLeaving_9 : decode cX8_nextLeaving 9 = .ok (.istore_n 1, 1) := by decide +kernel
theorem dX8_nextLeaving_10 : decode cX8_nextLeaving 10 = .ok (.iload_n 1, 1) := by decide +kernel
theorem dX8_nextLeaving_11 : decode cX8_nextLeaving 11 = .ok (.ifCond .ne 5, 3) := by decide +kernel
theorem dX8_nextLeaving_14 : decode cX8_nextLeaving 14 = .ok (.iconst (-1), 1) := by decide +kernel
theorem dX8_nextLeaving_15 : decode cX8_nextLeaving 15 = .ok (.ireturn, 1) := by decide +kernel
theorem dX8_nextLeaving_16 : decode cX8_nextLeaving 16 = .ok (.aload_n 0, 1) := by decide +kernel
theorem dX8_nextLeaving_17 : decode cX8_nextLeaving 17 = .ok (.invokevirtual 149, 3) := by decide +kernel
theorem dX8_nextLeaving_20 : decode cX8_nextLeaving 20 = .ok (.iconst 0, 1) := by decide +kernel
theorem dX8_nextLeaving_21 : decode cX8_nextLeaving 21 = .ok (.istore_n 2, 1) := by decide +kernel
theorem dX8_nextLeaving_22 : decode cX8_nextLeaving 22 = .ok (.aload_n 0, 1) := by decide +kernel
theorem dX8_nextLeaving_23 : decode cX8_nextLeaving 23 = .ok (.invokevirtual 54, 3) := by decide +kernel
theorem dX8_nextLeaving_26 : decode cX8_nextLeaving 26 = .ok (.iload_n 1, 1) := by decide +kernel
theorem dX8_nextLeaving_27 : decode cX8_nextLeaving 27 = .ok (.if_icmp .ne 13, 3) := by decide +kernel
theorem dX8_nextLeaving_30 : decode cX8_nextLeaving 30 = .ok (.aload_n 0, 1) := by decide +kernel
theorem dX8_nextLeaving_31 : decode cX8_nextLeaving 31 = .ok (.invokevirtual 128, 3) := by decide +kernel
theorem dX8_nextLeaving_34 : decode cX8_nextLeaving 34 = .ok (.iinc 2 1, 3) := by decide +kernel
theorem dX8_nextLeaving_37 : decode cX8_nextLeaving 37 = .ok (.goto (-15), 3) := by decide +kernel
theorem dX8_nextLeaving_40 : decode cX8_nextLeaving 40 = .ok (.aload_n 0, 1) := by decide +kernel
theorem dX8_nextLeaving_41 : decode cX8_nextLeaving 41 = .ok (.invokevirtual 152, 3) := by decide +kernel
theorem dX8_nextLeaving_44 : decode cX8_nextLeaving 44 = .ok (.iload_n 2, 1) := by decide +kernel
theorem dX8_nextLeaving_45 : decode cX8_nextLeaving 45 = .ok (.ireturn, 1) := by decide +kernel
theorem dX8_laneFor_0 : decode cX8_laneFor 0 = .ok (.aload_n 0, 1) := by decide +kernel
theorem dX8_laneFor_1 : decode cX8_laneFor 1 = .ok (.iconst 0, 1) := by decide +kernel
theorem dX8_laneFor_2 : decode cX8_laneFor 2 = .ok (.putfield 25, 3) := by decide +kernel
theorem dX8_laneFor_5 : decode cX8_laneFor 5 = .ok (.iload_n 1, 1) := by decide +kernel
theorem dX8_laneFor_6 : decode cX8_laneFor 6 = .ok (.invokestatic 67, 3) := by decide +kernel
theorem dX8_laneFor_9 : decode cX8_laneFor 9 = .ok (.ifCond .eq 24, 3) := by decide +kernel
theorem dX8_laneFor_12 : decode cX8_laneFor 12 = .ok (.iload_n 2, 1) := by decide +kernel
theorem dX8_laneFor_13 : decode cX8_laneFor 13 = .ok (.bipush 10, 2) := by decide +kernel
theorem dX8_laneFor_15 : decode cX8_laneFor 15 = .ok (.sipush 400, 3) := by decide +kernel
theorem dX8_laneFor_18 : decode cX8_laneFor 18 = .ok (.invokestatic 40, 3) := by decide +kernel
theorem dX8_laneFor_21 : decode cX8_laneFor 21 = .ok (.ifCond .eq 12, 3) := by decide +kernel
theorem dX8_laneFor_24 : decode cX8_laneFor 24 = .ok (.aload_n 0, 1) := by decide +kernel
theorem dX8_laneFor_25 : decode cX8_laneFor 25 = .ok (.iload_n 1, 1) := by decide +kernel
theorem dX8_laneFor_26 : decode cX8_laneFor 26 = .ok (.iload_n 2, 1) := by decide +kernel
theorem dX8_laneFor_27 : decode cX8_laneFor 27 = .ok (.invokevirtual 90, 3) := by decide +kernel
theorem dX8_laneFor_30 : decode cX8_laneFor 30 = .ok (.goto 8, 3) := by decide +kernel
theorem dX8_laneFor_33 : decode cX8_laneFor 33 = .ok (.aload_n 0, 1) := by decide +kernel
theorem dX8_laneFor_34 : decode cX8_laneFor 34 = .ok (.iconst 1, 1) := by decide +kernel
theorem dX8_laneFor_35 : decode cX8_laneFor 35 = .ok (.invokevirtual 44, 3) := by decide +kernel
theorem dX8_laneFor_38 : decode cX8_laneFor 38 = .ok (.ireturn, 1) := by decide +kernel
theorem dX8_append_0 : decode cX8_append 0 = .ok (.aload_n 0, 1) := by decide +kernel
theorem dX8_append_1 : decode cX8_append 1 = .ok (.iconst 0, 1) := by decide +kernel
theorem dX8_append_2 : decode cX8_append 2 = .ok (.putfield 25, 3) := by decide +kernel
theorem dX8_append_5 : decode cX8_append 5 = .ok (.iload_n 1, 1) := by decide +kernel
theorem dX8_append_6 : decode cX8_append 6 = .ok (.bipush 32, 2) := by decide +kernel
theorem dX8_append_8 : decode cX8_append 8 = .ok (.bipush 126, 2) := by decide +kernel
theorem dX8_append_10 : decode cX8_append 10 = .ok (.invokestatic 40, 3) := by decide +kernel
theorem dX8_append_13 : decode cX8_append 13 = .ok (.ifCond .ne 9, 3) := by decide +kernel
theorem dX8_append_16 : decode cX8_append 16 = .ok (.aload_n 0, 1) := by decide +kernel
theorem dX8_append_17 : decode cX8_append 17 = .ok (.iconst 1, 1) := by decide +kernel
theorem dX8_append_18 : decode cX8_append 18 = .ok (.invokevirtual 44, 3) := by decide +kernel
theorem dX8_append_21 : decode cX8_append 21 = .ok (.ireturn, 1) := by decide +kernel
theorem dX8_append_22 : decode cX8_append 22 = .ok (.aload_n 0, 1) := by decide +kernel
theorem dX8_append_23 : decode cX8_append 23 = .ok (.getfield 143, 3) := by decide +kernel
theorem dX8_append_26 : decode cX8_append 26 = .ok (.bipush 80, 2) := by decide +kernel
theorem dX8_append_28 : decode cX8_append 28 = .ok (.if_icmp .ne 9, 3) := by decide +kernel
theorem dX8_append_31 : decode cX8_append 31 = .ok (.aload_n 0, 1) := by decide +kernel
theorem dX8_append_32 : decode cX8_append 32 = .ok (.iconst 2, 1) := by decide +kernel
theorem dX8_append_33 : decode cX8_append 33 = .ok (.invokevirtual 44, 3) := by decide +kernel
theorem dX8_append_36 : decode cX8_append 36 = .ok (.ireturn, 1) := by decide +kernel
theorem dX8_append_37 : decode cX8_append 37 = .ok (.aload_n 0, 1) := by decide +kernel
theorem dX8_append_38 : decode cX8_append 38 = .ok (.getfield 19, 3) := by decide +kernel
theorem dX8_append_41 : decode cX8_append 41 = .ok (.aload_n 0, 1) := by decide +kernel
theorem dX8_append_42 : decode cX8_append 42 = .ok (.getfield 143, 3) := by decide +kernel
theorem dX8_append_45 : decode cX8_append 45 = .ok (.iload_n 1, 1) := by decide +kernel
theorem dX8_append_46 : decode cX8_append 46 = .ok (.iastore, 1) := by decide +kernel
theorem dX8_append_47 : decode cX8_append 47 = .ok (.aload_n 0, 1) := by decide +kernel
theorem dX8_append_48 : decode cX8_append 48 = .ok (.dup, 1) := by decide +kernel
theorem dX8_append_49 : decode cX8_append 49 = .ok (.getfield 143, 3) := by decide +kernel
theorem dX8_append_52 : decode cX8_append 52 = .ok (.iconst 1, 1) := by decide +kernel
theorem dX8_append_53 : decode cX8_append 53 = .ok (.iadd, 1) := by decide +kernel
theorem dX8_append_54 : decode cX8_append 54 = .ok (.putfield 143, 3) := by decide +kernel
theorem dX8_append_57 : decode cX8_append 57 = .ok (.aload_n 0, 1) := by decide +kernel
theorem dX8_append_58 : decode cX8_append 58 = .ok (.getfield 143, 3) := by decide +kernel
theorem dX8_append_61 : decode cX8_append 61 = .ok (.ireturn, 1) := by decide +kernel
theorem dX8_clear_0 : decode cX8_clear 0 = .ok (.aload_n 0, 1) := by decide +kernel
theorem dX8_clear_1 : decode cX8_clear 1 = .ok (.iconst 0, 1) := by decide +kernel
theorem dX8_clear_2 : decode cX8_clear 2 = .ok (.putfield 25, 3) := by decide +kernel
theorem dX8_clear_5 : decode cX8_clear 5 = .ok (.aload_n 0, 1) := by decide +kernel
theorem dX8_clear_6 : decode cX8_clear 6 = .ok (.getfield 143, 3) := by decide +kernel
theorem dX8_clear_9 : decode cX8_clear 9 = .ok (.istore_n 1, 1) := by decide +kernel
theorem dX8_clear_10 : decode cX8_clear 10 = .ok (.aload_n 0, 1) := by decide +kernel
theorem dX8_clear_11 : decode cX8_clear 11 = .ok (.iconst 0, 1) := by decide +kernel
theorem dX8_clear_12 : decode cX8_clear 12 = .ok (.putfield 143, 3) := by decide +kernel
theorem dX8_clear_15 : decode cX8_clear 15 = .ok (.iload_n 1, 1) := by decide +kernel
theorem dX8_clear_16 : decode cX8_clear 16 = .ok (.ireturn, 1) := by decide +kernel
theorem dX8_endRule_0 : decode cX8_endRule 0 = .ok (.iconst 1, 1) := by decide +kernel
theorem dX8_endRule_1 : decode cX8_endRule 1 = .ok (.istore_n 1, 1) := by decide +kernel
theorem dX8_endRule_2 : decode cX8_endRule 2 = .ok (.iload_n 1, 1) := by decide +kernel
theorem dX8_endRule_3 : decode cX8_endRule 3 = .ok (.ifCond .eq 62, 3) := by decide +kernel
theorem dX8_endRule_6 : decode cX8_endRule 6 = .ok (.aload_n 0, 1) := by decide +kernel
theorem dX8_endRule_7 : decode cX8_endRule 7 = .ok (.getfield 159, 3) := by decide +kernel
theorem dX8_endRule_10 : decode cX8_endRule 10 = .ok (.ifCond .le 55, 3) := by decide +kernel
theorem dX8_endRule_13 : decode cX8_endRule 13 = .ok (.aload_n 0, 1) := by decide +kernel
theorem dX8_endRule_14 : decode cX8_endRule 14 = .ok (.getfield 22, 3) := by decide +kernel
theorem dX8_endRule_17 : decode cX8_endRule 17 = .ok (.aload_n 0, 1) := by decide +kernel
theorem dX8_endRule_18 : decode cX8_endRule 18 = .ok (.getfield 159, 3) := by decide +kernel
theorem dX8_endRule_21 : decode cX8_endRule 21 = .ok (.iconst 1, 1) := by decide +kernel
theorem dX8_endRule_22 : decode cX8_endRule 22 = .ok (.isub, 1) := by decide +kernel
theorem dX8_endRule_23 : decode cX8_endRule 23 = .ok (.dup2, 1) := by decide +kernel
theorem dX8_endRule_24 : decode cX8_endRule 24 = .ok (.iaload, 1) := by decide +kernel
theorem dX8_endRule_25 : decode cX8_endRule 25 = .ok (.iconst 1, 1) := by decide +kernel
theorem dX8_endRule_26 : decode cX8_endRule 26 = .ok (.iadd, 1) := by decide +kernel
theorem dX8_endRule_27 : decode cX8_endRule 27 = .ok (.iastore, 1) := by decide +kernel
theorem dX8_endRule_28 : decode cX8_endRule 28 = .ok (.aload_n 0, 1) := by decide +kernel
theorem dX8_endRule_29 : decode cX8_endRule 29 = .ok (.getfield 22, 3) := by decide +kernel
theorem dX8_endRule_32 : decode cX8_endRule 32 = .ok (.aload_n 0, 1) := by decide +kernel
theorem dX8_endRule_33 : decode cX8_endRule 33 = .ok (.getfield 159, 3) := by decide +kernel
theorem dX8_endRule_36 : decode cX8_endRule 36 = .ok (.iconst 1, 1) := by decide +kernel
theorem dX8_endRule_37 : decode cX8_endRule 37 = .ok (.isub, 1) := by decide +kernel
theorem dX8_endRule_38 : decode cX8_endRule 38 = .ok (.iaload, 1) := by decide +kernel
theorem dX8_endRule_39 : decode cX8_endRule 39 = .ok (.iconst 2, 1) := by decide +kernel
theorem dX8_endRule_40 : decode cX8_endRule 40 = .ok (.if_icmp .ne 7, 3) := by decide +kernel
theorem dX8_endRule_43 : decode cX8_endRule 43 = .ok (.iconst 1, 1) := by decide +kernel
theorem dX8_endRule_44 : decode cX8_endRule 44 = .ok (.goto 4, 3) := by decide +kernel
theorem dX8_endRule_47 : decode cX8_endRule 47 = .ok (.iconst 0, 1) := by decide +kernel
theorem dX8_endRule_48 : decode cX8_endRule 48 = .ok (.istore_n 1, 1) := by decide +kernel
theorem dX8_endRule_49 : decode cX8_endRule 49 = .ok (.aload_n 0, 1) := by decide +kernel
theorem dX8_endRule_50 : decode cX8_endRule 50 = .ok (.dup, 1) := by decide +kernel
theorem dX8_endRule_51 : decode cX8_endRule 51 = .ok (.getfield 159, 3) := by decide +kernel
theorem dX8_endRule_54 : decode cX8_endRule 54 = .ok (.iload_n 1, 1) := by decide +kernel
theorem dX8_endRule_55 : decode cX8_endRule 55 = .ok (.invokestatic 36, 3) := by decide +kernel
theorem dX8_endRule_58 : decode cX8_endRule 58 = .ok (.isub, 1) := by decide +kernel
theorem dX8_endRule_59 : decode cX8_endRule 59 = .ok (.putfield 159, 3) := by decide +kernel
theorem dX8_endRule_62 : decode cX8_endRule 62 = .ok (.goto (-60), 3) := by decide +kernel
theorem dX8_endRule_65 : decode cX8_endRule 65 = .ok (.aload_n 0, 1) := by decide +kernel
theorem dX8_endRule_66 : decode cX8_endRule 66 = .ok (.aload_n 0, 1) := by decide +kernel
theorem dX8_endRule_67 : decode cX8_endRule 67 = .ok (.getfield 159, 3) := by decide +kernel
theorem dX8_endRule_70 : decode cX8_endRule 70 = .ok (.ifCond .ne 11, 3) := by decide +kernel
theorem dX8_endRule_73 : decode cX8_endRule 73 = .ok (.iload_n 1, 1) := by decide +kernel
theorem dX8_endRule_74 : decode cX8_endRule 74 = .ok (.ifCond .eq 7, 3) := by decide +kernel
theorem dX8_endRule_77 : decode cX8_endRule 77 = .ok (.iconst 5, 1) := by decide +kernel
theorem dX8_endRule_78 : decode cX8_endRule 78 = .ok (.goto 4, 3) := by decide +kernel
theorem dX8_endRule_81 : decode cX8_endRule 81 = .ok (.iconst 0, 1) := by decide +kernel
theorem dX8_endRule_82 : decode cX8_endRule 82 = .ok (.putfield 162, 3) := by decide +kernel
theorem dX8_endRule_85 : decode cX8_endRule 85 = .ok (.return_, 1) := by decide +kernel
theorem dX8_takesRule_0 : decode cX8_takesRule 0 = .ok (.iload_n 1, 1) := by decide +kernel
theorem dX8_takesRule_1 : decode cX8_takesRule 1 = .ok (.bipush 48, 2) := by decide +kernel
theorem dX8_takesRule_3 : decode cX8_takesRule 3 = .ok (.bipush 53, 2) := by decide +kernel
theorem dX8_takesRule_5 : decode cX8_takesRule 5 = .ok (.invokestatic 40, 3) := by decide +kernel
theorem dX8_takesRule_8 : decode cX8_takesRule 8 = .ok (.ifCond .ne 9, 3) := by decide +kernel
theorem dX8_takesRule_11 : decode cX8_takesRule 11 = .ok (.iload_n 1, 1) := by decide +kernel
theorem dX8_takesRule_12 : decode cX8_takesRule 12 = .ok (.bipush 120, 2) := by decide +kernel
theorem dX8_takesRule_14 : decode cX8_takesRule 14 = .ok (.if_icmp .ne 9, 3) := by decide +kernel
theorem dX8_takesRule_17 : decode cX8_takesRule 17 = .ok (.aload_n 0, 1) := by decide +kernel
theorem dX8_takesRule_18 : decode cX8_takesRule 18 = .ok (.invokevirtual 165, 3) := by decide +kernel
theorem dX8_takesRule_21 : decode cX8_takesRule 21 = .ok (.iconst 1, 1) := by decide +kernel
theorem dX8_takesRule_22 : decode cX8_takesRule 22 = .ok (.ireturn, 1) := by decide +kernel
theorem dX8_takesRule_23 : decode cX8_takesRule 23 = .ok (.iload_n 1, 1) := by decide +kernel
theorem dX8_takesRule_24 : decode cX8_takesRule 24 = .ok (.bipush 63, 2) := by decide +kernel
theorem dX8_takesRule_26 : decode cX8_takesRule 26 = .ok (.if_icmp .ne 12, 3) := by decide +kernel
theorem dX8_takesRule_29 : decode cX8_takesRule 29 = .ok (.aload_n 0, 1) := by decide +kernel
theorem dX8_takesRule_30 : decode cX8_takesRule 30 = .ok (.getfield 159, 3) := by decide +kernel
theorem dX8_takesRule_33 : decode cX8_takesRule 33 = .ok (.bipush 6, 2) := by decide +kernel
theorem dX8_takesRule_35 : decode cX8_takesRule 35 = .ok (.if_icmp .ne 5, 3) := by decide +kernel
theorem dX8_takesRule_38 : decode cX8_takesRule 38 = .ok (.iconst 0, 1) := by decide +kernel
theorem dX8_takesRule_39 : decode cX8_takesRule 39 = .ok (.ireturn, 1) := by decide +kernel
theorem dX8_takesRule_40 : decode cX8_takesRule 40 = .ok (.aload_n 0, 1) := by decide +kernel
theorem dX8_takesRule_41 : decode cX8_takesRule 41 = .ok (.getfield 22, 3) := by decide +kernel
theorem dX8_takesRule_44 : decode cX8_takesRule 44 = .ok (.aload_n 0, 1) := by decide +kernel
theorem dX8_takesRule_45 : decode cX8_takesRule 45 = .ok (.getfield 159, 3) := by decide +kernel
theorem dX8_takesRule_48 : decode cX8_takesRule 48 = .ok (.iconst 0, 1) := by decide +kernel
theorem dX8_takesRule_49 : decode cX8_takesRule 49 = .ok (.iastore, 1) := by decide +kernel
theorem dX8_takesRule_50 : decode cX8_takesRule 50 = .ok (.aload_n 0, 1) := by decide +kernel
theorem dX8_takesRule_51 : decode cX8_takesRule 51 = .ok (.dup, 1) := by decide +kernel
theorem dX8_takesRule_52 : decode cX8_takesRule 52 = .ok (.getfield 159, 3) := by decide +kernel
theorem dX8_takesRule_55 : decode cX8_takesRule 55 = .ok (.iconst 1, 1) := by decide +kernel
theorem dX8_takesRule_56 : decode cX8_takesRule 56 = .ok (.iadd, 1) := by decide +kernel
theorem dX8_takesRule_57 : decode cX8_takesRule 57 = .ok (.putfield 159, 3) := by decide +kernel
theorem dX8_takesRule_60 : decode cX8_takesRule 60 = .ok (.aload_n 0, 1) := by decide +kernel
theorem dX8_takesRule_61 : decode cX8_takesRule 61 = .ok (.dup, 1) := by decide +kernel
theorem dX8_takesRule_62 : decode cX8_takesRule 62 = .ok (.getfield 168, 3) := by decide +kernel
theorem dX8_takesRule_65 : decode cX8_takesRule 65 = .ok (.iconst 1, 1) := by decide +kernel
theorem dX8_takesRule_66 : decode cX8_takesRule 66 = .ok (.iadd, 1) := by decide +kernel
theorem dX8_takesRule_67 : decode cX8_takesRule 67 = .ok (.putfield 168, 3) := by decide +kernel
theorem dX8_takesRule_70 : decode cX8_takesRule 70 = .ok (.aload_n 0, 1) := by decide +kernel
theorem dX8_takesRule_71 : decode cX8_takesRule 71 = .ok (.iconst 1, 1) := by decide +kernel
theorem dX8_takesRule_72 : decode cX8_takesRule 72 = .ok (.putfield 162, 3) := by decide +kernel
theorem dX8_takesRule_75 : decode cX8_takesRule 75 = .ok (.iconst 1, 1) := by decide +kernel
theorem dX8_takesRule_76 : decode cX8_takesRule 76 = .ok (.ireturn, 1) := by decide +kernel
theorem dX8_takesNumber_0 : decode cX8_takesNumber 0 = .ok (.iload_n 1, 1) := by decide +kernel
theorem dX8_takesNumber_1 : decode cX8_takesNumber 1 = .ok (.bipush 48, 2) := by decide +kernel
theorem dX8_takesNumber_3 : decode cX8_takesNumber 3 = .ok (.bipush 57, 2) := by decide +kernel
theorem dX8_takesNumber_5 : decode cX8_takesNumber 5 = .ok (.invokestatic 40, 3) := by decide +kernel
theorem dX8_takesNumber_8 : decode cX8_takesNumber 8 = .ok (.ifCond .eq 57, 3) := by decide +kernel
theorem dX8_takesNumber_11 : decode cX8_takesNumber 11 = .ok (.aload_n 0, 1) := by decide +kernel
theorem dX8_takesNumber_12 : decode cX8_takesNumber 12 = .ok (.aload_n 0, 1) := by decide +kernel
theorem dX8_takesNumber_13 : decode cX8_takesNumber 13 = .ok (.getfield 171, 3) := by decide +kernel
theorem dX8_takesNumber_16 : decode cX8_takesNumber 16 = .ok (.ifCond .ne 10, 3) := by decide +kernel
theorem dX8_takesNumber_19 : decode cX8_takesNumber 19 = .ok (.iload_n 1, 1) := by decide +kernel
theorem dX8_takesNumber_20 : decode cX8_takesNumber 20 = .ok (.bipush 48, 2) := by decide +kernel
theorem dX8_takesNumber_22 : decode cX8_takesNumber 22 = .ok (.isub, 1) := by decide +kernel
theorem dX8_takesNumber_23 : decode cX8_takesNumber 23 = .ok (.goto 15, 3) := by decide +kernel
theorem dX8_takesNumber_26 : decode cX8_takesNumber 26 = .ok (.bipush 10, 2) := by decide +kernel
theorem dX8_takesNumber_28 : decode cX8_takesNumber 28 = .ok (.aload_n 0, 1) := by decide +kernel
theorem dX8_takesNumber_29 : decode cX8_takesNumber 29 = .ok (.getfield 174, 3) := by decide +kernel
theorem dX8_takesNumber_32 : decode cX8_takesNumber 32 = .ok (.imul, 1) := by decide +kernel
theorem dX8_takesNumber_33 : decode cX8_takesNumber 33 = .ok (.iload_n 1, 1) := by decide +kernel
theorem dX8_takesNumber_34 : decode cX8_takesNumber 34 = .ok (.iadd, 1) := by decide +kernel
theorem dX8_takesNumber_35 : decode cX8_takesNumber 35 = .ok (.bipush 48, 2) := by decide +kernel
theorem dX8_takesNumber_37 : decode cX8_takesNumber 37 = .ok (.isub, 1) := by decide +kernel
theorem dX8_takesNumber_38 : decode cX8_takesNumber 38 = .ok (.putfield 174, 3) := by decide +kernel
theorem dX8_takesNumber_41 : decode cX8_takesNumber 41 = .ok (.aload_n 0, 1) := by decide +kernel
theorem dX8_takesNumber_42 : decode cX8_takesNumber 42 = .ok (.dup, 1) := by decide +kernel
theorem dX8_takesNumber_43 : decode cX8_takesNumber 43 = .ok (.getfield 171, 3) := by decide +kernel
theorem dX8_takesNumber_46 : decode cX8_takesNumber 46 = .ok (.iconst 1, 1) := by decide +kernel
theorem dX8_takesNumber_47 : decode cX8_takesNumber 47 = .ok (.iadd, 1) := by decide +kernel
theorem dX8_takesNumber_48 : decode cX8_takesNumber 48 = .ok (.putfield 171, 3) := by decide +kernel
theorem dX8_takesNumber_51 : decode cX8_takesNumber 51 = .ok (.aload_n 0, 1) := by decide +kernel
theorem dX8_takesNumber_52 : decode cX8_takesNumber 52 = .ok (.getfield 171, 3) := by decide +kernel
theorem dX8_takesNumber_55 : decode cX8_takesNumber 55 = .ok (.iconst 4, 1) := by decide +kernel
theorem dX8_takesNumber_56 : decode cX8_takesNumber 56 = .ok (.if_icmp .ge 7, 3) := by decide +kernel
theorem dX8_takesNumber_59 : decode cX8_takesNumber 59 = .ok (.iconst 1, 1) := by decide +kernel
theorem dX8_takesNumber_60 : decode cX8_takesNumber 60 = .ok (.goto 4, 3) := by decide +kernel
theorem dX8_takesNumber_63 : decode cX8_takesNumber 63 = .ok (.iconst 0, 1) := by decide +kernel
theorem dX8_takesNumber_64 : decode cX8_takesNumber 64 = .ok (.ireturn, 1) := by decide +kernel
theorem dX8_takesNumber_65 : decode cX8_takesNumber 65 = .ok (.aload_n 0, 1) := by decide +kernel
theorem dX8_takesNumber_66 : decode cX8_takesNumber 66 = .ok (.getfield 171, 3) := by decide +kernel
theorem dX8_takesNumber_69 : decode cX8_takesNumber 69 = .ok (.ifCond .eq 37, 3) := by decide +kernel
theorem dX8_takesNumber_72 : decode cX8_takesNumber 72 = .ok (.iload_n 1, 1) := by decide +kernel
theorem dX8_takesNumber_73 : decode cX8_takesNumber 73 = .ok (.aload_n 0, 1) := by decide +kernel
theorem dX8_takesNumber_74 : decode cX8_takesNumber 74 = .ok (.getfield 162, 3) := by decide +kernel
theorem dX8_takesNumber_77 : decode cX8_takesNumber 77 = .ok (.iconst 3, 1) := by decide +kernel
theorem dX8_takesNumber_78 : decode cX8_takesNumber 78 = .ok (.if_icmp .ne 8, 3) := by decide +kernel
theorem dX8_takesNumber_81 : decode cX8_takesNumber 81 = .ok (.bipush 44, 2) := by decide +kernel
theorem dX8_takesNumber_83 : decode cX8_takesNumber 83 = .ok (.goto 5, 3) := by decide +kernel
theorem dX8_takesNumber_86 : decode cX8_takesNumber 86 = .ok (.bipush 59, 2) := by decide +kernel
theorem dX8_takesNumber_88 : decode cX8_takesNumber 88 = .ok (.if_icmp .ne 18, 3) := by decide +kernel
theorem dX8_takesNumber_91 : decode cX8_takesNumber 91 = .ok (.aload_n 0, 1) := by decide +kernel
theorem dX8_takesNumber_92 : decode cX8_takesNumber 92 = .ok (.getfield 162, 3) := by decide +kernel
theorem dX8_takesNumber_95 : decode cX8_takesNumber 95 = .ok (.iconst 3, 1) := by decide +kernel
theorem dX8_takesNumber_96 : decode cX8_takesNumber 96 = .ok (.if_icmp .ne 12, 3) := by decide +kernel
theorem dX8_takesNumber_99 : decode cX8_takesNumber 99 = .ok (.aload_n 0, 1) := by decide +kernel
theorem dX8_takesNumber_100 : decode cX8_takesNumber 100 = .ok (.getfield 174, 3) := by decide +kernel
theorem dX8_takesNumber_103 : decode cX8_takesNumber 103 = .ok (.ifCond .ne 5, 3) := by decide +kernel
theorem dX8_takesNumber_106 : decode cX8_takesNumber 106 = .ok (.iconst 0, 1) := by decide +kernel
theorem dX8_takesNumber_107 : decode cX8_takesNumber 107 = .ok (.ireturn, 1) := by decide +kernel
theorem dX8_takesNumber_108 : decode cX8_takesNumber 108 = .ok (.aload_n 0, 1) := by decide +kernel
theorem dX8_takesNumber_109 : decode cX8_takesNumber 109 = .ok (.aload_n 0, 1) := by decide +kernel
theorem dX8_takesNumber_110 : decode cX8_takesNumber 110 = .ok (.getfield 162, 3) := by decide +kernel
theorem dX8_takesNumber_113 : decode cX8_takesNumber 113 = .ok (.iconst 3, 1) := by decide +kernel
theorem dX8_takesNumber_114 : decode cX8_takesNumber 114 = .ok (.if_icmp .ne 7, 3) := by decide +kernel
theorem dX8_takesNumber_117 : decode cX8_takesNumber 117 = .ok (.iconst 4, 1) := by decide +kernel
theorem dX8_takesNumber_118 : decode cX8_takesNumber 118 = .ok (.goto 4, 3) := by decide +kernel
theorem dX8_takesNumber_121 : decode cX8_takesNumber 121 = .ok (.iconst 0, 1) := by decide +kernel
theorem dX8_takesNumber_122 : decode cX8_takesNumber 122 = .ok (.putfield 162, 3) := by decide +kernel
theorem dX8_takesNumber_125 : decode cX8_takesNumber 125 = .ok (.aload_n 0, 1) := by decide +kernel
theorem dX8_takesNumber_126 : decode cX8_takesNumber 126 = .ok (.iconst 0, 1) := by decide +kernel
theorem dX8_takesNumber_127 : decode cX8_takesNumber 127 = .ok (.putfield 171, 3) := by decide +kernel
theorem dX8_takesNumber_130 : decode cX8_takesNumber 130 = .ok (.iconst 1, 1) := by decide +kernel
theorem dX8_takesNumber_131 : decode cX8_takesNumber 131 = .ok (.ireturn, 1) := by decide +kernel
theorem dX8_takes_0 : decode cX8_takes 0 = .ok (.aload_n 0, 1) := by decide +kernel
theorem dX8_takes_1 : decode cX8_takes 1 = .ok (.getfield 162, 3) := by decide +kernel
theorem dX8_takes_4 : decode cX8_takes 4 = .ok (.ifCond .ne 9, 3) := by decide +kernel
theorem dX8_takes_7 : decode cX8_takes 7 = .ok (.aload_n 0, 1) := by decide +kernel
theorem dX8_takes_8 : decode cX8_takes 8 = .ok (.iload_n 1, 1) := by decide +kernel
theorem dX8_takes_9 : decode cX8_takes 9 = .ok (.invokevirtual 177, 3) := by decide +kernel
theorem dX8_takes_12 : decode cX8_takes 12 = .ok (.ireturn, 1) := by decide +kernel
theorem dX8_takes_13 : decode cX8_takes 13 = .ok (.aload_n 0, 1) := by decide +kernel
theorem dX8_takes_14 : decode cX8_takes 14 = .ok (.getfield 162, 3) := by decide +kernel
theorem dX8_takes_17 : decode cX8_takes 17 = .ok (.iconst 1, 1) := by decide +kernel
theorem dX8_takes_18 : decode cX8_takes 18 = .ok (.if_icmp .ne 47, 3) := by decide +kernel
theorem dX8_takes_21 : decode cX8_takes 21 = .ok (.aload_n 0, 1) := by decide +kernel
theorem dX8_takes_22 : decode cX8_takes 22 = .ok (.iload_n 1, 1) := by decide +kernel
theorem dX8_takes_23 : decode cX8_takes 23 = .ok (.bipush 109, 2) := by decide +kernel
theorem dX8_takes_25 : decode cX8_takes 25 = .ok (.if_icmp .ne 7, 3) := by decide +kernel
theorem dX8_takes_28 : decode cX8_takes 28 = .ok (.iconst 3, 1) := by decide +kernel
theorem dX8_takes_29 : decode cX8_takes 29 = .ok (.goto 4, 3) := by decide +kernel
theorem dX8_takes_32 : decode cX8_takes 32 = .ok (.iconst 2, 1) := by decide +kernel
theorem dX8_takes_33 : decode cX8_takes 33 = .ok (.putfield 162, 3) := by decide +kernel
theorem dX8_takes_36 : decode cX8_takes 36 = .ok (.aload_n 0, 1) := by decide +kernel
theorem dX8_takes_37 : decode cX8_takes 37 = .ok (.iconst 0, 1) := by decide +kernel
theorem dX8_takes_38 : decode cX8_takes 38 = .ok (.putfield 171, 3) := by decide +kernel
theorem dX8_takes_41 : decode cX8_takes 41 = .ok (.iload_n 1, 1) := by decide +kernel
theorem dX8_takes_42 : decode cX8_takes 42 = .ok (.bipush 99, 2) := by decide +kernel
theorem dX8_takes_44 : decode cX8_takes 44 = .ok (.if_icmp .eq 15, 3) := by decide +kernel
theorem dX8_takes_47 : decode cX8_takes 47 = .ok (.iload_n 1, 1) := by decide +kernel
theorem dX8_takes_48 : decode cX8_takes 48 = .ok (.bipush 108, 2) := by decide +kernel
theorem dX8_takes_50 : decode cX8_takes 50 = .ok (.if_icmp .eq 9, 3) := by decide +kernel
theorem dX8_takes_53 : decode cX8_takes 53 = .ok (.iload_n 1, 1) := by decide +kernel
theorem dX8_takes_54 : decode cX8_takes 54 = .ok (.bipush 109, 2) := by decide +kernel
theorem dX8_takes_56 : decode cX8_takes 56 = .ok (.if_icmp .ne 7, 3) := by decide +kernel
theorem dX8_takes_59 : decode cX8_takes 59 = .ok (.iconst 1, 1) := by decide +kernel
theorem dX8_takes_60 : decode cX8_takes 60 = .ok (.goto 4, 3) := by decide +kernel
theorem dX8_takes_63 : decode cX8_takes 63 = .ok (.iconst 0, 1) := by decide +kernel
theorem dX8_takes_64 : decode cX8_takes 64 = .ok (.ireturn, 1) := by decide +kernel
theorem dX8_takes_65 : decode cX8_takes 65 = .ok (.aload_n 0, 1) := by decide +kernel
theorem dX8_takes_66 : decode cX8_takes 66 = .ok (.getfield 162, 3) := by decide +kernel
theorem dX8_takes_69 : decode cX8_takes 69 = .ok (.iconst 5, 1) := by decide +kernel
theorem dX8_takes_70 : decode cX8_takes 70 = .ok (.if_icmp .ge 15, 3) := by decide +kernel
theorem dX8_takes_73 : decode cX8_takes 73 = .ok (.aload_n 0, 1) := by decide +kernel
theorem dX8_takes_74 : decode cX8_takes 74 = .ok (.iload_n 1, 1) := by decide +kernel
theorem dX8_takes_75 : decode cX8_takes 75 = .ok (.invokevirtual 180, 3) := by decide +kernel
theorem dX8_takes_78 : decode cX8_takes 78 = .ok (.ifCond .eq 7, 3) := by decide +kernel
theorem dX8_takes_81 : decode cX8_takes 81 = .ok (.iconst 1, 1) := by decide +kernel
theorem dX8_takes_82 : decode cX8_takes 82 = .ok (.goto 4, 3) := by decide +kernel
theorem dX8_takes_85 : decode cX8_takes 85 = .ok (.iconst 0, 1) := by decide +kernel
theorem dX8_takes_86 : decode cX8_takes 86 = .ok (.ireturn, 1) := by decide +kernel
theorem dX8_error_0 : decode cX8_error 0 = .ok (.aload_n 0, 1) := by decide +kernel
theorem dX8_error_1 : decode cX8_error 1 = .ok (.iconst 0, 1) := by decide +kernel
theorem dX8_error_2 : decode cX8_error 2 = .ok (.putfield 162, 3) := by decide +kernel
theorem dX8_error_5 : decode cX8_error 5 = .ok (.aload_n 0, 1) := by decide +kernel
theorem dX8_error_6 : decode cX8_error 6 = .ok (.iconst 0, 1) := by decide +kernel
theorem dX8_error_7 : decode cX8_error 7 = .ok (.putfield 159, 3) := by decide +kernel
theorem dX8_error_10 : decode cX8_error 10 = .ok (.aload_n 0, 1) := by decide +kernel
theorem dX8_error_11 : decode cX8_error 11 = .ok (.iconst 0, 1) := by decide +kernel
theorem dX8_error_12 : decode cX8_error 12 = .ok (.putfield 168, 3) := by decide +kernel
theorem dX8_error_15 : decode cX8_error 15 = .ok (.iconst 0, 1) := by decide +kernel
theorem dX8_error_16 : decode cX8_error 16 = .ok (.istore_n 1, 1) := by decide +kernel
theorem dX8_error_17 : decode cX8_error 17 = .ok (.iload_n 1, 1) := by decide +kernel
theorem dX8_error_18 : decode cX8_error 18 = .ok (.aload_n 0, 1) := by decide +kernel
theorem dX8_error_19 : decode cX8_error 19 = .ok (.getfield 143, 3) := by decide +kernel
theorem dX8_error_22 : decode cX8_error 22 = .ok (.if_icmp .ge 24, 3) := by decide +kernel
theorem dX8_error_25 : decode cX8_error 25 = .ok (.aload_n 0, 1) := by decide +kernel
theorem dX8_error_26 : decode cX8_error 26 = .ok (.aload_n 0, 1) := by decide +kernel
theorem dX8_error_27 : decode cX8_error 27 = .ok (.getfield 19, 3) := by decide +kernel
theorem dX8_error_30 : decode cX8_error 30 = .ok (.iload_n 1, 1) := by decide +kernel
theorem dX8_error_31 : decode cX8_error 31 = .ok (.iaload, 1) := by decide +kernel
theorem dX8_error_32 : decode cX8_error 32 = .ok (.invokevirtual 183, 3) := by decide +kernel
theorem dX8_error_35 : decode cX8_error 35 = .ok (.ifCond .ne 5, 3) := by decide +kernel
theorem dX8_error_38 : decode cX8_error 38 = .ok (.iload_n 1, 1) := by decide +kernel
theorem dX8_error_39 : decode cX8_error 39 = .ok (.ireturn, 1) := by decide +kernel
theorem dX8_error_40 : decode cX8_error 40 = .ok (.iinc 1 1, 3) := by decide +kernel
theorem dX8_error_43 : decode cX8_error 43 = .ok (.goto (-26), 3) := by decide +kernel
theorem dX8_error_46 : decode cX8_error 46 = .ok (.aload_n 0, 1) := by decide +kernel
theorem dX8_error_47 : decode cX8_error 47 = .ok (.getfield 162, 3) := by decide +kernel
theorem dX8_error_50 : decode cX8_error 50 = .ok (.iconst 5, 1) := by decide +kernel
theorem dX8_error_51 : decode cX8_error 51 = .ok (.if_icmp .ne 7, 3) := by decide +kernel
theorem dX8_error_54 : decode cX8_error 54 = .ok (.iconst (-1), 1) := by decide +kernel
theorem dX8_error_55 : decode cX8_error 55 = .ok (.goto 7, 3) := by decide +kernel
theorem dX8_error_58 : decode cX8_error 58 = .ok (.aload_n 0, 1) := by decide +kernel
theorem dX8_error_59 : decode cX8_error 59 = .ok (.getfield 143, 3) := by decide +kernel
theorem dX8_error_62 : decode cX8_error 62 = .ok (.ireturn, 1) := by decide +kernel
theorem dX8_errorPosition_0 : decode cX8_errorPosition 0 = .ok (.aload_n 0, 1) := by decide +kernel
theorem dX8_errorPosition_1 : decode cX8_errorPosition 1 = .ok (.iconst 0, 1) := by decide +kernel
theorem dX8_errorPosition_2 : decode cX8_errorPosition 2 = .ok (.putfield 25, 3) := by decide +kernel
theorem dX8_errorPosition_5 : decode cX8_errorPosition 5 = .ok (.aload_n 0, 1) := by decide +kernel
theorem dX8_errorPosition_6 : decode cX8_errorPosition 6 = .ok (.invokevirtual 186, 3) := by decide +kernel
theorem dX8_errorPosition_9 : decode cX8_errorPosition 9 = .ok (.ireturn, 1) := by decide +kernel
theorem dX8_load_0 : decode cX8_load 0 = .ok (.aload_n 0, 1) := by decide +kernel
theorem dX8_load_1 : decode cX8_load 1 = .ok (.iconst 0, 1) := by decide +kernel
theorem dX8_load_2 : decode cX8_load 2 = .ok (.putfield 25, 3) := by decide +kernel
theorem dX8_load_5 : decode cX8_load 5 = .ok (.aload_n 0, 1) := by decide +kernel
theorem dX8_load_6 : decode cX8_load 6 = .ok (.invokevirtual 186, 3) := by decide +kernel
theorem dX8_load_9 : decode cX8_load 9 = .ok (.iconst (-1), 1) := by decide +kernel
theorem dX8_load_10 : decode cX8_load 10 = .ok (.if_icmp .eq 9, 3) := by decide +kernel
theorem dX8_load_13 : decode cX8_load 13 = .ok (.aload_n 0, 1) := by decide +kernel
theorem dX8_load_14 : decode cX8_load 14 = .ok (.iconst 1, 1) := by decide +kernel
theorem dX8_load_15 : decode cX8_load 15 = .ok (.invokevirtual 44, 3) := by decide +kernel
theorem dX8_load_18 : decode cX8_load 18 = .ok (.ireturn, 1) := by decide +kernel
theorem dX8_load_19 : decode cX8_load 19 = .ok (.aload_n 0, 1) := by decide +kernel
theorem dX8_load_20 : decode cX8_load 20 = .ok (.invokevirtual 58, 3) := by decide +kernel
theorem dX8_load_23 : decode cX8_load 23 = .ok (.iconst 0, 1) := by decide +kernel
theorem dX8_load_24 : decode cX8_load 24 = .ok (.istore_n 1, 1) := by decide +kernel
theorem dX8_load_25 : decode cX8_load 25 = .ok (.iload_n 1, 1) := by decide +kernel
theorem dX8_load_26 : decode cX8_load 26 = .ok (.aload_n 0, 1) := by decide +kernel
theorem dX8_load_27 : decode cX8_load 27 = .ok (.getfield 143, 3) := by decide +kernel
theorem dX8_load_30 : decode cX8_load 30 = .ok (.if_icmp .ge 24, 3) := by decide +kernel
theorem dX8_load_33 : decode cX8_load 33 = .ok (.aload_n 0, 1) := by decide +kernel
theorem dX8_load_34 : decode cX8_load 34 = .ok (.getfield 7, 3) := by decide +kernel
theorem dX8_load_37 : decode cX8_load 37 = .ok (.bipush 106, 2) := by decide +kernel
theorem dX8_load_39 : decode cX8_load 39 = .ok (.iload_n 1, 1) := by decide +kernel
theorem dX8_load_40 : decode cX8_load 40 = .ok (.iadd, 1) := by decide +kernel
theorem dX8_load_41 : decode cX8_load 41 = .ok (.aload_n 0, 1) := by decide +kernel
theorem dX8_load_42 : decode cX8_load 42 = .ok (.getfield 19, 3) := by decide +kernel
theorem dX8_load_45 : decode cX8_load 45 = .ok (.iload_n 1, 1) := by decide +kernel
theorem dX8_load_46 : decode cX8_load 46 = .ok (.iaload, 1) := by decide +kernel
theorem dX8_load_47 : decode cX8_load 47 = .ok (.iastore, 1) := by decide +kernel
theorem dX8_load_48 : decode cX8_load 48 = .ok (.iinc 1 1, 3) := by decide +kernel
theorem dX8_load_51 : decode cX8_load 51 = .ok (.goto (-26), 3) := by decide +kernel
theorem dX8_load_54 : decode cX8_load 54 = .ok (.aload_n 0, 1) := by decide +kernel
theorem dX8_load_55 : decode cX8_load 55 = .ok (.getfield 7, 3) := by decide +kernel
theorem dX8_load_58 : decode cX8_load 58 = .ok (.bipush 11, 2) := by decide +kernel
theorem dX8_load_60 : decode cX8_load 60 = .ok (.aload_n 0, 1) := by decide +kernel
theorem dX8_load_61 : decode cX8_load 61 = .ok (.getfield 143, 3) := by decide +kernel
theorem dX8_load_64 : decode cX8_load 64 = .ok (.iastore, 1) := by decide +kernel
theorem dX8_load_65 : decode cX8_load 65 = .ok (.aload_n 0, 1) := by decide +kernel
theorem dX8_load_66 : decode cX8_load 66 = .ok (.iconst 0, 1) := by decide +kernel
theorem dX8_load_67 : decode cX8_load 67 = .ok (.putfield 143, 3) := by decide +kernel
theorem dX8_load_70 : decode cX8_load 70 = .ok (.aload_n 0, 1) := by decide +kernel
theorem dX8_load_71 : decode cX8_load 71 = .ok (.getfield 168, 3) := by decide +kernel
theorem dX8_load_74 : decode cX8_load 74 = .ok (.ireturn, 1) := by decide +kernel
theorem dL_set_0 : decode cL_set 0 = .ok (.aload_n 3, 1) := by decide +kernel
theorem dL_set_1 : decode cL_set 1 = .ok (.iconst 0, 1) := by decide +kernel
theorem dL_set_2 : decode cL_set 2 = .ok (.aload_n 0, 1) := by decide +kernel
theorem dL_set_3 : decode cL_set 3 = .ok (.iload_n 1, 1) := by decide +kernel
theorem dL_set_4 : decode cL_set 4 = .ok (.iload_n 2, 1) := by decide +kernel
theorem dL_set_5 : decode cL_set 5 = .ok (.invokevirtual 7, 3) := by decide +kernel
theorem dL_set_8 : decode cL_set 8 = .ok (.i2l, 1) := by decide +kernel
theorem dL_set_9 : decode cL_set 9 = .ok (.lastore, 1) := by decide +kernel
theorem dL_set_10 : decode cL_set 10 = .ok (.goto 15, 3) := by decide +kernel
theorem dL_set_13 : decode cL_set 13 = .ok (.astore 4, 2) := by decide +kernel
theorem dL_set_15 : decode cL_set 15 = .ok (.iconst 1, 1) := by decide +kernel
theorem dL_set_16 : decode cL_set 16 = .ok (.ireturn, 1) := by decide +kernel
theorem dL_set_17 : decode cL_set 17 = .ok (.astore 4, 2) := by decide +kernel
theorem dL_set_19 : decode cL_set 19 = .ok (.iconst 2, 1) := by decide +kernel
theorem dL_set_20 : decode cL_set 20 = .ok (.ireturn, 1) := by decide +kernel
theorem dL_set_21 : decode cL_set 21 = .ok (.astore 4, 2) := by decide +kernel
theorem dL_set_23 : decode cL_set 23 = .ok (.iconst 3, 1) := by decide +kernel
theorem dL_set_24 : decode cL_set 24 = .ok (.ireturn, 1) := by decide +kernel
theorem dL_set_25 : decode cL_set 25 = .ok (.iconst 0, 1) := by decide +kernel
theorem dL_set_26 : decode cL_set 26 = .ok (.ireturn, 1) := by decide +kernel
theorem dL_addLane_0 : decode cL_addLane 0 = .ok (.aload 4, 2) := by decide +kernel
theorem dL_addLane_2 : decode cL_addLane 2 = .ok (.iconst 0, 1) := by decide +kernel
theorem dL_addLane_3 : decode cL_addLane 3 = .ok (.aload_n 0, 1) := by decide +kernel
theorem dL_addLane_4 : decode cL_addLane 4 = .ok (.iload_n 1, 1) := by decide +kernel
theorem dL_addLane_5 : decode cL_addLane 5 = .ok (.iload_n 2, 1) := by decide +kernel
theorem dL_addLane_6 : decode cL_addLane 6 = .ok (.iload_n 3, 1) := by decide +kernel
theorem dL_addLane_7 : decode cL_addLane 7 = .ok (.invokevirtual 19, 3) := by decide +kernel
theorem dL_addLane_10 : decode cL_addLane 10 = .ok (.i2l, 1) := by decide +kernel
theorem dL_addLane_11 : decode cL_addLane 11 = .ok (.lastore, 1) := by decide +kernel
theorem dL_addLane_12 : decode cL_addLane 12 = .ok (.goto 11, 3) := by decide +kernel
theorem dL_addLane_15 : decode cL_addLane 15 = .ok (.astore 5, 2) := by decide +kernel
theorem dL_addLane_17 : decode cL_addLane 17 = .ok (.iconst 1, 1) := by decide +kernel
theorem dL_addLane_18 : decode cL_addLane 18 = .ok (.ireturn, 1) := by decide +kernel
theorem dL_addLane_19 : decode cL_addLane 19 = .ok (.astore 5, 2) := by decide +kernel
theorem dL_addLane_21 : decode cL_addLane 21 = .ok (.iconst 2, 1) := by decide +kernel
theorem dL_addLane_22 : decode cL_addLane 22 = .ok (.ireturn, 1) := by decide +kernel
theorem dL_addLane_23 : decode cL_addLane 23 = .ok (.iconst 0, 1) := by decide +kernel
theorem dL_addLane_24 : decode cL_addLane 24 = .ok (.ireturn, 1) := by decide +kernel
theorem dL_emptyLane_0 : decode cL_emptyLane 0 = .ok (.aload_n 2, 1) := by decide +kernel
theorem dL_emptyLane_1 : decode cL_emptyLane 1 = .ok (.iconst 0, 1) := by decide +kernel
theorem dL_emptyLane_2 : decode cL_emptyLane 2 = .ok (.aload_n 0, 1) := by decide +kernel
theorem dL_emptyLane_3 : decode cL_emptyLane 3 = .ok (.iload_n 1, 1) := by decide +kernel
theorem dL_emptyLane_4 : decode cL_emptyLane 4 = .ok (.invokevirtual 23, 3) := by decide +kernel
theorem dL_emptyLane_7 : decode cL_emptyLane 7 = .ok (.i2l, 1) := by decide +kernel
theorem dL_emptyLane_8 : decode cL_emptyLane 8 = .ok (.lastore, 1) := by decide +kernel
theorem dL_emptyLane_9 : decode cL_emptyLane 9 = .ok (.goto 6, 3) := by decide +kernel
theorem dL_emptyLane_12 : decode cL_emptyLane 12 = .ok (.astore_n 3, 1) := by decide +kernel
theorem dL_emptyLane_13 : decode cL_emptyLane 13 = .ok (.iconst 1, 1) := by decide +kernel
theorem dL_emptyLane_14 : decode cL_emptyLane 14 = .ok (.ireturn, 1) := by decide +kernel
theorem dL_emptyLane_15 : decode cL_emptyLane 15 = .ok (.iconst 0, 1) := by decide +kernel
theorem dL_emptyLane_16 : decode cL_emptyLane 16 = .ok (.ireturn, 1) := by decide +kernel
theorem dL_route_0 : decode cL_route 0 = .ok (.aload_n 3, 1) := by decide +kernel
theorem dL_route_1 : decode cL_route 1 = .ok (.iconst 0, 1) := by decide +kernel
theorem dL_route_2 : decode cL_route 2 = .ok (.aload_n 0, 1) := by decide +kernel
theorem dL_route_3 : decode cL_route 3 = .ok (.iload_n 1, 1) := by decide +kernel
theorem dL_route_4 : decode cL_route 4 = .ok (.iload_n 2, 1) := by decide +kernel
theorem dL_route_5 : decode cL_route 5 = .ok (.invokevirtual 27, 3) := by decide +kernel
theorem dL_route_8 : decode cL_route 8 = .ok (.i2l, 1) := by decide +kernel
theorem dL_route_9 : decode cL_route 9 = .ok (.lastore, 1) := by decide +kernel
theorem dL_route_10 : decode cL_route 10 = .ok (.goto 15, 3) := by decide +kernel
theorem dL_route_13 : decode cL_route 13 = .ok (.astore 4, 2) := by decide +kernel
theorem dL_route_15 : decode cL_route 15 = .ok (.iconst 1, 1) := by decide +kernel
theorem dL_route_16 : decode cL_route 16 = .ok (.ireturn, 1) := by decide +kernel
theorem dL_route_17 : decode cL_route 17 = .ok (.astore 4, 2) := by decide +kernel
theorem dL_route_19 : decode cL_route 19 = .ok (.iconst 2, 1) := by decide +kernel
theorem dL_route_20 : decode cL_route 20 = .ok (.ireturn, 1) := by decide +kernel
theorem dL_route_21 : decode cL_route 21 = .ok (.astore 4, 2) := by decide +kernel
theorem dL_route_23 : decode cL_route 23 = .ok (.iconst 3, 1) := by decide +kernel
theorem dL_route_24 : decode cL_route 24 = .ok (.ireturn, 1) := by decide +kernel
theorem dL_route_25 : decode cL_route 25 = .ok (.iconst 0, 1) := by decide +kernel
theorem dL_route_26 : decode cL_route 26 = .ok (.ireturn, 1) := by decide +kernel
theorem dL_removeRoute_0 : decode cL_removeRoute 0 = .ok (.aload_n 2, 1) := by decide +kernel
theorem dL_removeRoute_1 : decode cL_removeRoute 1 = .ok (.iconst 0, 1) := by decide +kernel
theorem dL_removeRoute_2 : decode cL_removeRoute 2 = .ok (.aload_n 0, 1) := by decide +kernel
theorem dL_removeRoute_3 : decode cL_removeRoute 3 = .ok (.iload_n 1, 1) := by decide +kernel
theorem dL_removeRoute_4 : decode cL_removeRoute 4 = .ok (.invokevirtual 30, 3) := by decide +kernel
theorem dL_removeRoute_7 : decode cL_removeRoute 7 = .ok (.i2l, 1) := by decide +kernel
theorem dL_removeRoute_8 : decode cL_removeRoute 8 = .ok (.lastore, 1) := by decide +kernel
theorem dL_removeRoute_9 : decode cL_removeRoute 9 = .ok (.goto 9, 3) := by decide +kernel
theorem dL_removeRoute_12 : decode cL_removeRoute 12 = .ok (.astore_n 3, 1) := by decide +kernel
theorem dL_removeRoute_13 : decode cL_removeRoute 13 = .ok (.iconst 1, 1) := by decide +kernel
theorem dL_removeRoute_14 : decode cL_removeRoute 14 = .ok (.ireturn, 1) := by decide +kernel
theorem dL_removeRoute_15 : decode cL_removeRoute 15 = .ok (.astore_n 3, 1) := by decide +kernel
theorem dL_removeRoute_16 : decode cL_removeRoute 16 = .ok (.iconst 2, 1) := by decide +kernel
theorem dL_removeRoute_17 : decode cL_removeRoute 17 = .ok (.ireturn, 1) := by decide +kernel
theorem dL_removeRoute_18 : decode cL_removeRoute 18 = .ok (.iconst 0, 1) := by decide +kernel
theorem dL_removeRoute_19 : decode cL_removeRoute 19 = .ok (.ireturn, 1) := by decide +kernel
theorem dL_enter_0 : decode cL_enter 0 = .ok (.aload_n 2, 1) := by decide +kernel
theorem dL_enter_1 : decode cL_enter 1 = .ok (.iconst 0, 1) := by decide +kernel
theorem dL_enter_2 : decode cL_enter 2 = .ok (.aload_n 0, 1) := by decide +kernel
theorem dL_enter_3 : decode cL_enter 3 = .ok (.iload_n 1, 1) := by decide +kernel
theorem dL_enter_4 : decode cL_enter 4 = .ok (.invokevirtual 33, 3) := by decide +kernel
theorem dL_enter_7 : decode cL_enter 7 = .ok (.i2l, 1) := by decide +kernel
theorem dL_enter_8 : decode cL_enter 8 = .ok (.lastore, 1) := by decide +kernel
theorem dL_enter_9 : decode cL_enter 9 = .ok (.goto 9, 3) := by decide +kernel
theorem dL_enter_12 : decode cL_enter 12 = .ok (.astore_n 3, 1) := by decide +kernel
theorem dL_enter_13 : decode cL_enter 13 = .ok (.iconst 1, 1) := by decide +kernel
theorem dL_enter_14 : decode cL_enter 14 = .ok (.ireturn, 1) := by decide +kernel
theorem dL_enter_15 : decode cL_enter 15 = .ok (.astore_n 3, 1) := by decide +kernel
theorem dL_enter_16 : decode cL_enter 16 = .ok (.iconst 2, 1) := by decide +kernel
theorem dL_enter_17 : decode cL_enter 17 = .ok (.ireturn, 1) := by decide +kernel
theorem dL_enter_18 : decode cL_enter 18 = .ok (.iconst 0, 1) := by decide +kernel
theorem dL_enter_19 : decode cL_enter 19 = .ok (.ireturn, 1) := by decide +kernel
theorem dL_read_0 : decode cL_read 0 = .ok (.aload_n 2, 1) := by decide +kernel
theorem dL_read_1 : decode cL_read 1 = .ok (.iconst 0, 1) := by decide +kernel
theorem dL_read_2 : decode cL_read 2 = .ok (.aload_n 0, 1) := by decide +kernel
theorem dL_read_3 : decode cL_read 3 = .ok (.iload_n 1, 1) := by decide +kernel
theorem dL_read_4 : decode cL_read 4 = .ok (.invokevirtual 36, 3) := by decide +kernel
theorem dL_read_7 : decode cL_read 7 = .ok (.i2l, 1) := by decide +kernel
theorem dL_read_8 : decode cL_read 8 = .ok (.lastore, 1) := by decide +kernel
theorem dL_read_9 : decode cL_read 9 = .ok (.goto 6, 3) := by decide +kernel
theorem dL_read_12 : decode cL_read 12 = .ok (.astore_n 3, 1) := by decide +kernel
theorem dL_read_13 : decode cL_read 13 = .ok (.iconst 1, 1) := by decide +kernel
theorem dL_read_14 : decode cL_read 14 = .ok (.ireturn, 1) := by decide +kernel
theorem dL_read_15 : decode cL_read 15 = .ok (.iconst 0, 1) := by decide +kernel
theorem dL_read_16 : decode cL_read 16 = .ok (.ireturn, 1) := by decide +kernel
theorem dL_move_0 : decode cL_move 0 = .ok (.aload_n 2, 1) := by decide +kernel
theorem dL_move_1 : decode cL_move 1 = .ok (.iconst 0, 1) := by decide +kernel
theorem dL_move_2 : decode cL_move 2 = .ok (.aload_n 0, 1) := by decide +kernel
theorem dL_move_3 : decode cL_move 3 = .ok (.iload_n 1, 1) := by decide +kernel
theorem dL_move_4 : decode cL_move 4 = .ok (.invokevirtual 39, 3) := by decide +kernel
theorem dL_move_7 : decode cL_move 7 = .ok (.i2l, 1) := by decide +kernel
theorem dL_move_8 : decode cL_move 8 = .ok (.lastore, 1) := by decide +kernel
theorem dL_move_9 : decode cL_move 9 = .ok (.goto 9, 3) := by decide +kernel
theorem dL_move_12 : decode cL_move 12 = .ok (.astore_n 3, 1) := by decide +kernel
theorem dL_move_13 : decode cL_move 13 = .ok (.iconst 1, 1) := by decide +kernel
theorem dL_move_14 : decode cL_move 14 = .ok (.ireturn, 1) := by decide +kernel
theorem dL_move_15 : decode cL_move 15 = .ok (.astore_n 3, 1) := by decide +kernel
theorem dL_move_16 : decode cL_move 16 = .ok (.iconst 2, 1) := by decide +kernel
theorem dL_move_17 : decode cL_move 17 = .ok (.ireturn, 1) := by decide +kernel
theorem dL_move_18 : decode cL_move 18 = .ok (.iconst 0, 1) := by decide +kernel
theorem dL_move_19 : decode cL_move 19 = .ok (.ireturn, 1) := by decide +kernel
theorem dL_takeOff_0 : decode cL_takeOff 0 = .ok (.aload_n 2, 1) := by decide +kernel
theorem dL_takeOff_1 : decode cL_takeOff 1 = .ok (.iconst 0, 1) := by decide +kernel
theorem dL_takeOff_2 : decode cL_takeOff 2 = .ok (.aload_n 0, 1) := by decide +kernel
theorem dL_takeOff_3 : decode cL_takeOff 3 = .ok (.iload_n 1, 1) := by decide +kernel
theorem dL_takeOff_4 : decode cL_takeOff 4 = .ok (.invokevirtual 42, 3) := by decide +kernel
theorem dL_takeOff_7 : decode cL_takeOff 7 = .ok (.i2l, 1) := by decide +kernel
theorem dL_takeOff_8 : decode cL_takeOff 8 = .ok (.lastore, 1) := by decide +kernel
theorem dL_takeOff_9 : decode cL_takeOff 9 = .ok (.goto 9, 3) := by decide +kernel
theorem dL_takeOff_12 : decode cL_takeOff 12 = .ok (.astore_n 3, 1) := by decide +kernel
theorem dL_takeOff_13 : decode cL_takeOff 13 = .ok (.iconst 1, 1) := by decide +kernel
theorem dL_takeOff_14 : decode cL_takeOff 14 = .ok (.ireturn, 1) := by decide +kernel
theorem dL_takeOff_15 : decode cL_takeOff 15 = .ok (.astore_n 3, 1) := by decide +kernel
theorem dL_takeOff_16 : decode cL_takeOff 16 = .ok (.iconst 2, 1) := by decide +kernel
theorem dL_takeOff_17 : decode cL_takeOff 17 = .ok (.ireturn, 1) := by decide +kernel
theorem dL_takeOff_18 : decode cL_takeOff 18 = .ok (.iconst 0, 1) := by decide +kernel
theorem dL_takeOff_19 : decode cL_takeOff 19 = .ok (.ireturn, 1) := by decide +kernel
theorem dL_undo_0 : decode cL_undo 0 = .ok (.aload_n 1, 1) := by decide +kernel
theorem dL_undo_1 : decode cL_undo 1 = .ok (.iconst 0, 1) := by decide +kernel
theorem dL_undo_2 : decode cL_undo 2 = .ok (.aload_n 0, 1) := by decide +kernel
theorem dL_undo_3 : decode cL_undo 3 = .ok (.invokevirtual 45, 3) := by decide +kernel
theorem dL_undo_6 : decode cL_undo 6 = .ok (.i2l, 1) := by decide +kernel
theorem dL_undo_7 : decode cL_undo 7 = .ok (.lastore, 1) := by decide +kernel
theorem dL_undo_8 : decode cL_undo 8 = .ok (.goto 6, 3) := by decide +kernel
theorem dL_undo_11 : decode cL_undo 11 = .ok (.astore_n 2, 1) := by decide +kernel
theorem dL_undo_12 : decode cL_undo 12 = .ok (.iconst 1, 1) := by decide +kernel
theorem dL_undo_13 : decode cL_undo 13 = .ok (.ireturn, 1) := by decide +kernel
theorem dL_undo_14 : decode cL_undo 14 = .ok (.iconst 0, 1) := by decide +kernel
theorem dL_undo_15 : decode cL_undo 15 = .ok (.ireturn, 1) := by decide +kernel
theorem dL_part_0 : decode cL_part 0 = .ok (.aload_n 3, 1) := by decide +kernel
theorem dL_part_1 : decode cL_part 1 = .ok (.iconst 0, 1) := by decide +kernel
theorem dL_part_2 : decode cL_part 2 = .ok (.aload_n 0, 1) := by decide +kernel
theorem dL_part_3 : decode cL_part 3 = .ok (.iload_n 1, 1) := by decide +kernel
theorem dL_part_4 : decode cL_part 4 = .ok (.iload_n 2, 1) := by decide +kernel
theorem dL_part_5 : decode cL_part 5 = .ok (.invokevirtual 49, 3) := by decide +kernel
theorem dL_part_8 : decode cL_part 8 = .ok (.i2l, 1) := by decide +kernel
theorem dL_part_9 : decode cL_part 9 = .ok (.lastore, 1) := by decide +kernel
theorem dL_part_10 : decode cL_part 10 = .ok (.goto 11, 3) := by decide +kernel
theorem dL_part_13 : decode cL_part 13 = .ok (.astore 4, 2) := by decide +kernel
theorem dL_part_15 : decode cL_part 15 = .ok (.iconst 1, 1) := by decide +kernel
theorem dL_part_16 : decode cL_part 16 = .ok (.ireturn, 1) := by decide +kernel
theorem dL_part_17 : decode cL_part 17 = .ok (.astore 4, 2) := by decide +kernel
theorem dL_part_19 : decode cL_part 19 = .ok (.iconst 2, 1) := by decide +kernel
theorem dL_part_20 : decode cL_part 20 = .ok (.ireturn, 1) := by decide +kernel
theorem dL_part_21 : decode cL_part 21 = .ok (.iconst 0, 1) := by decide +kernel
theorem dL_part_22 : decode cL_part 22 = .ok (.ireturn, 1) := by decide +kernel
theorem dL_lane_0 : decode cL_lane 0 = .ok (.aload_n 3, 1) := by decide +kernel
theorem dL_lane_1 : decode cL_lane 1 = .ok (.iconst 0, 1) := by decide +kernel
theorem dL_lane_2 : decode cL_lane 2 = .ok (.aload_n 0, 1) := by decide +kernel
theorem dL_lane_3 : decode cL_lane 3 = .ok (.iload_n 1, 1) := by decide +kernel
theorem dL_lane_4 : decode cL_lane 4 = .ok (.iload_n 2, 1) := by decide +kernel
theorem dL_lane_5 : decode cL_lane 5 = .ok (.invokevirtual 52, 3) := by decide +kernel
theorem dL_lane_8 : decode cL_lane 8 = .ok (.i2l, 1) := by decide +kernel
theorem dL_lane_9 : decode cL_lane 9 = .ok (.lastore, 1) := by decide +kernel
theorem dL_lane_10 : decode cL_lane 10 = .ok (.goto 11, 3) := by decide +kernel
theorem dL_lane_13 : decode cL_lane 13 = .ok (.astore 4, 2) := by decide +kernel
theorem dL_lane_15 : decode cL_lane 15 = .ok (.iconst 1, 1) := by decide +kernel
theorem dL_lane_16 : decode cL_lane 16 = .ok (.ireturn, 1) := by decide +kernel
theorem dL_lane_17 : decode cL_lane 17 = .ok (.astore 4, 2) := by decide +kernel
theorem dL_lane_19 : decode cL_lane 19 = .ok (.iconst 2, 1) := by decide +kernel
theorem dL_lane_20 : decode cL_lane 20 = .ok (.ireturn, 1) := by decide +kernel
theorem dL_lane_21 : decode cL_lane 21 = .ok (.iconst 0, 1) := by decide +kernel
theorem dL_lane_22 : decode cL_lane 22 = .ok (.ireturn, 1) := by decide +kernel
theorem dL_total_0 : decode cL_total 0 = .ok (.aload_n 2, 1) := by decide +kernel
theorem dL_total_1 : decode cL_total 1 = .ok (.iconst 0, 1) := by decide +kernel
theorem dL_total_2 : decode cL_total 2 = .ok (.aload_n 0, 1) := by decide +kernel
theorem dL_total_3 : decode cL_total 3 = .ok (.iload_n 1, 1) := by decide +kernel
theorem dL_total_4 : decode cL_total 4 = .ok (.invokevirtual 55, 3) := by decide +kernel
theorem dL_total_7 : decode cL_total 7 = .ok (.i2l, 1) := by decide +kernel
theorem dL_total_8 : decode cL_total 8 = .ok (.lastore, 1) := by decide +kernel
theorem dL_total_9 : decode cL_total 9 = .ok (.goto 6, 3) := by decide +kernel
theorem dL_total_12 : decode cL_total 12 = .ok (.astore_n 3, 1) := by decide +kernel
theorem dL_total_13 : decode cL_total 13 = .ok (.iconst 1, 1) := by decide +kernel
theorem dL_total_14 : decode cL_total 14 = .ok (.ireturn, 1) := by decide +kernel
theorem dL_total_15 : decode cL_total 15 = .ok (.iconst 0, 1) := by decide +kernel
theorem dL_total_16 : decode cL_total 16 = .ok (.ireturn, 1) := by decide +kernel
theorem dL_lost_0 : decode cL_lost 0 = .ok (.aload_n 2, 1) := by decide +kernel
theorem dL_lost_1 : decode cL_lost 1 = .ok (.iconst 0, 1) := by decide +kernel
theorem dL_lost_2 : decode cL_lost 2 = .ok (.aload_n 0, 1) := by decide +kernel
theorem dL_lost_3 : decode cL_lost 3 = .ok (.iload_n 1, 1) := by decide +kernel
theorem dL_lost_4 : decode cL_lost 4 = .ok (.invokevirtual 58, 3) := by decide +kernel
theorem dL_lost_7 : decode cL_lost 7 = .ok (.i2l, 1) := by decide +kernel
theorem dL_lost_8 : decode cL_lost 8 = .ok (.lastore, 1) := by decide +kernel
theorem dL_lost_9 : decode cL_lost 9 = .ok (.goto 6, 3) := by decide +kernel
theorem dL_lost_12 : decode cL_lost 12 = .ok (.astore_n 3, 1) := by decide +kernel
theorem dL_lost_13 : decode cL_lost 13 = .ok (.iconst 1, 1) := by decide +kernel
theorem dL_lost_14 : decode cL_lost 14 = .ok (.ireturn, 1) := by decide +kernel
theorem dL_lost_15 : decode cL_lost 15 = .ok (.iconst 0, 1) := by decide +kernel
theorem dL_lost_16 : decode cL_lost 16 = .ok (.ireturn, 1) := by decide +kernel
theorem dL_setting_0 : decode cL_setting 0 = .ok (.aload_n 2, 1) := by decide +kernel
theorem dL_setting_1 : decode cL_setting 1 = .ok (.iconst 0, 1) := by decide +kernel
theorem dL_setting_2 : decode cL_setting 2 = .ok (.aload_n 0, 1) := by decide +kernel
theorem dL_setting_3 : decode cL_setting 3 = .ok (.iload_n 1, 1) := by decide +kernel
theorem dL_setting_4 : decode cL_setting 4 = .ok (.invokevirtual 61, 3) := by decide +kernel
theorem dL_setting_7 : decode cL_setting 7 = .ok (.i2l, 1) := by decide +kernel
theorem dL_setting_8 : decode cL_setting 8 = .ok (.lastore, 1) := by decide +kernel
theorem dL_setting_9 : decode cL_setting 9 = .ok (.goto 6, 3) := by decide +kernel
theorem dL_setting_12 : decode cL_setting 12 = .ok (.astore_n 3, 1) := by decide +kernel
theorem dL_setting_13 : decode cL_setting 13 = .ok (.iconst 1, 1) := by decide +kernel
theorem dL_setting_14 : decode cL_setting 14 = .ok (.ireturn, 1) := by decide +kernel
theorem dL_setting_15 : decode cL_setting 15 = .ok (.iconst 0, 1) := by decide +kernel
theorem dL_setting_16 : decode cL_setting 16 = .ok (.ireturn, 1) := by decide +kernel
theorem dL_routeAt_0 : decode cL_routeAt 0 = .ok (.aload_n 2, 1) := by decide +kernel
theorem dL_routeAt_1 : decode cL_routeAt 1 = .ok (.iconst 0, 1) := by decide +kernel
theorem dL_routeAt_2 : decode cL_routeAt 2 = .ok (.aload_n 0, 1) := by decide +kernel
theorem dL_routeAt_3 : decode cL_routeAt 3 = .ok (.iload_n 1, 1) := by decide +kernel
theorem dL_routeAt_4 : decode cL_routeAt 4 = .ok (.invokevirtual 64, 3) := by decide +kernel
theorem dL_routeAt_7 : decode cL_routeAt 7 = .ok (.i2l, 1) := by decide +kernel
theorem dL_routeAt_8 : decode cL_routeAt 8 = .ok (.lastore, 1) := by decide +kernel
theorem dL_routeAt_9 : decode cL_routeAt 9 = .ok (.goto 6, 3) := by decide +kernel
theorem dL_routeAt_12 : decode cL_routeAt 12 = .ok (.astore_n 3, 1) := by decide +kernel
theorem dL_routeAt_13 : decode cL_routeAt 13 = .ok (.iconst 1, 1) := by decide +kernel
theorem dL_routeAt_14 : decode cL_routeAt 14 = .ok (.ireturn, 1) := by decide +kernel
theorem dL_routeAt_15 : decode cL_routeAt 15 = .ok (.iconst 0, 1) := by decide +kernel
theorem dL_routeAt_16 : decode cL_routeAt 16 = .ok (.ireturn, 1) := by decide +kernel
theorem dL_gapAhead_0 : decode cL_gapAhead 0 = .ok (.aload_n 2, 1) := by decide +kernel
theorem dL_gapAhead_1 : decode cL_gapAhead 1 = .ok (.iconst 0, 1) := by decide +kernel
theorem dL_gapAhead_2 : decode cL_gapAhead 2 = .ok (.aload_n 0, 1) := by decide +kernel
theorem dL_gapAhead_3 : decode cL_gapAhead 3 = .ok (.iload_n 1, 1) := by decide +kernel
theorem dL_gapAhead_4 : decode cL_gapAhead 4 = .ok (.invokevirtual 67, 3) := by decide +kernel
theorem dL_gapAhead_7 : decode cL_gapAhead 7 = .ok (.i2l, 1) := by decide +kernel
theorem dL_gapAhead_8 : decode cL_gapAhead 8 = .ok (.lastore, 1) := by decide +kernel
theorem dL_gapAhead_9 : decode cL_gapAhead 9 = .ok (.goto 9, 3) := by decide +kernel
theorem dL_gapAhead_12 : decode cL_gapAhead 12 = .ok (.astore_n 3, 1) := by decide +kernel
theorem dL_gapAhead_13 : decode cL_gapAhead 13 = .ok (.iconst 1, 1) := by decide +kernel
theorem dL_gapAhead_14 : decode cL_gapAhead 14 = .ok (.ireturn, 1) := by decide +kernel
theorem dL_gapAhead_15 : decode cL_gapAhead 15 = .ok (.astore_n 3, 1) := by decide +kernel
theorem dL_gapAhead_16 : decode cL_gapAhead 16 = .ok (.iconst 2, 1) := by decide +kernel
theorem dL_gapAhead_17 : decode cL_gapAhead 17 = .ok (.ireturn, 1) := by decide +kernel
theorem dL_gapAhead_18 : decode cL_gapAhead 18 = .ok (.iconst 0, 1) := by decide +kernel
theorem dL_gapAhead_19 : decode cL_gapAhead 19 = .ok (.ireturn, 1) := by decide +kernel
theorem dL_ranked_0 : decode cL_ranked 0 = .ok (.aload_n 2, 1) := by decide +kernel
theorem dL_ranked_1 : decode cL_ranked 1 = .ok (.iconst 0, 1) := by decide +kernel
theorem dL_ranked_2 : decode cL_ranked 2 = .ok (.aload_n 0, 1) := by decide +kernel
theorem dL_ranked_3 : decode cL_ranked 3 = .ok (.iload_n 1, 1) := by decide +kernel
theorem dL_ranked_4 : decode cL_ranked 4 = .ok (.invokevirtual 70, 3) := by decide +kernel
theorem dL_ranked_7 : decode cL_ranked 7 = .ok (.i2l, 1) := by decide +kernel
theorem dL_ranked_8 : decode cL_ranked 8 = .ok (.lastore, 1) := by decide +kernel
theorem dL_ranked_9 : decode cL_ranked 9 = .ok (.goto 6, 3) := by decide +kernel
theorem dL_ranked_12 : decode cL_ranked 12 = .ok (.astore_n 3, 1) := by decide +kernel
theorem dL_ranked_13 : decode cL_ranked 13 = .ok (.iconst 1, 1) := by decide +kernel
theorem dL_ranked_14 : decode cL_ranked 14 = .ok (.ireturn, 1) := by decide +kernel
theorem dL_ranked_15 : decode cL_ranked 15 = .ok (.iconst 0, 1) := by decide +kernel
theorem dL_ranked_16 : decode cL_ranked 16 = .ok (.ireturn, 1) := by decide +kernel
theorem dL_fateOf_0 : decode cL_fateOf 0 = .ok (.aload_n 2, 1) := by decide +kernel
theorem dL_fateOf_1 : decode cL_fateOf 1 = .ok (.iconst 0, 1) := by decide +kernel
theorem dL_fateOf_2 : decode cL_fateOf 2 = .ok (.aload_n 0, 1) := by decide +kernel
theorem dL_fateOf_3 : decode cL_fateOf 3 = .ok (.iload_n 1, 1) := by decide +kernel
theorem dL_fateOf_4 : decode cL_fateOf 4 = .ok (.invokevirtual 73, 3) := by decide +kernel
theorem dL_fateOf_7 : decode cL_fateOf 7 = .ok (.i2l, 1) := by decide +kernel
theorem dL_fateOf_8 : decode cL_fateOf 8 = .ok (.lastore, 1) := by decide +kernel
theorem dL_fateOf_9 : decode cL_fateOf 9 = .ok (.goto 6, 3) := by decide +kernel
theorem dL_fateOf_12 : decode cL_fateOf 12 = .ok (.astore_n 3, 1) := by decide +kernel
theorem dL_fateOf_13 : decode cL_fateOf 13 = .ok (.iconst 1, 1) := by decide +kernel
theorem dL_fateOf_14 : decode cL_fateOf 14 = .ok (.ireturn, 1) := by decide +kernel
theorem dL_fateOf_15 : decode cL_fateOf 15 = .ok (.iconst 0, 1) := by decide +kernel
theorem dL_fateOf_16 : decode cL_fateOf 16 = .ok (.ireturn, 1) := by decide +kernel
theorem dL_laneFor_0 : decode cL_laneFor 0 = .ok (.aload_n 3, 1) := by decide +kernel
theorem dL_laneFor_1 : decode cL_laneFor 1 = .ok (.iconst 0, 1) := by decide +kernel
theorem dL_laneFor_2 : decode cL_laneFor 2 = .ok (.aload_n 0, 1) := by decide +kernel
theorem dL_laneFor_3 : decode cL_laneFor 3 = .ok (.iload_n 1, 1) := by decide +kernel
theorem dL_laneFor_4 : decode cL_laneFor 4 = .ok (.iload_n 2, 1) := by decide +kernel
theorem dL_laneFor_5 : decode cL_laneFor 5 = .ok (.invokevirtual 76, 3) := by decide +kernel
theorem dL_laneFor_8 : decode cL_laneFor 8 = .ok (.i2l, 1) := by decide +kernel
theorem dL_laneFor_9 : decode cL_laneFor 9 = .ok (.lastore, 1) := by decide +kernel
theorem dL_laneFor_10 : decode cL_laneFor 10 = .ok (.goto 7, 3) := by decide +kernel
theorem dL_laneFor_13 : decode cL_laneFor 13 = .ok (.astore 4, 2) := by decide +kernel
theorem dL_laneFor_15 : decode cL_laneFor 15 = .ok (.iconst 1, 1) := by decide +kernel
theorem dL_laneFor_16 : decode cL_laneFor 16 = .ok (.ireturn, 1) := by decide +kernel
theorem dL_laneFor_17 : decode cL_laneFor 17 = .ok (.iconst 0, 1) := by decide +kernel
theorem dL_laneFor_18 : decode cL_laneFor 18 = .ok (.ireturn, 1) := by decide +kernel
theorem dL_append_0 : decode cL_append 0 = .ok (.aload_n 2, 1) := by decide +kernel
theorem dL_append_1 : decode cL_append 1 = .ok (.iconst 0, 1) := by decide +kernel
theorem dL_append_2 : decode cL_append 2 = .ok (.aload_n 0, 1) := by decide +kernel
theorem dL_append_3 : decode cL_append 3 = .ok (.iload_n 1, 1) := by decide +kernel
theorem dL_append_4 : decode cL_append 4 = .ok (.invokevirtual 79, 3) := by decide +kernel
theorem dL_append_7 : decode cL_append 7 = .ok (.i2l, 1) := by decide +kernel
theorem dL_append_8 : decode cL_append 8 = .ok (.lastore, 1) := by decide +kernel
theorem dL_append_9 : decode cL_append 9 = .ok (.goto 9, 3) := by decide +kernel
theorem dL_append_12 : decode cL_append 12 = .ok (.astore_n 3, 1) := by decide +kernel
theorem dL_append_13 : decode cL_append 13 = .ok (.iconst 1, 1) := by decide +kernel
theorem dL_append_14 : decode cL_append 14 = .ok (.ireturn, 1) := by decide +kernel
theorem dL_append_15 : decode cL_append 15 = .ok (.astore_n 3, 1) := by decide +kernel
theorem dL_append_16 : decode cL_append 16 = .ok (.iconst 2, 1) := by decide +kernel
theorem dL_append_17 : decode cL_append 17 = .ok (.ireturn, 1) := by decide +kernel
theorem dL_append_18 : decode cL_append 18 = .ok (.iconst 0, 1) := by decide +kernel
theorem dL_append_19 : decode cL_append 19 = .ok (.ireturn, 1) := by decide +kernel
theorem dL_load_0 : decode cL_load 0 = .ok (.aload_n 1, 1) := by decide +kernel
theorem dL_load_1 : decode cL_load 1 = .ok (.iconst 0, 1) := by decide +kernel
theorem dL_load_2 : decode cL_load 2 = .ok (.aload_n 0, 1) := by decide +kernel
theorem dL_load_3 : decode cL_load 3 = .ok (.invokevirtual 82, 3) := by decide +kernel
theorem dL_load_6 : decode cL_load 6 = .ok (.i2l, 1) := by decide +kernel
theorem dL_load_7 : decode cL_load 7 = .ok (.lastore, 1) := by decide +kernel
theorem dL_load_8 : decode cL_load 8 = .ok (.goto 6, 3) := by decide +kernel
theorem dL_load_11 : decode cL_load 11 = .ok (.astore_n 2, 1) := by decide +kernel
theorem dL_load_12 : decode cL_load 12 = .ok (.iconst 1, 1) := by decide +kernel
theorem dL_load_13 : decode cL_load 13 = .ok (.ireturn, 1) := by decide +kernel
theorem dL_load_14 : decode cL_load 14 = .ok (.iconst 0, 1) := by decide +kernel
theorem dL_load_15 : decode cL_load 15 = .ok (.ireturn, 1) := by decide +kernel
theorem dL_law_0 : decode cL_law 0 = .ok (.new 8, 3) := by decide +kernel
theorem dL_law_3 : decode cL_law 3 = .ok (.dup, 1) := by decide +kernel
theorem dL_law_4 : decode cL_law 4 = .ok (.invokespecial 85, 3) := by decide +kernel
theorem dL_law_7 : decode cL_law 7 = .ok (.astore_n 1, 1) := by decide +kernel
theorem dL_law_8 : decode cL_law 8 = .ok (.new 86, 3) := by decide +kernel
theorem dL_law_11 : decode cL_law 11 = .ok (.dup, 1) := by decide +kernel
theorem dL_law_12 : decode cL_law 12 = .ok (.invokespecial 88, 3) := by decide +kernel
theorem dL_law_15 : decode cL_law 15 = .ok (.astore_n 2, 1) := by decide +kernel
theorem dL_law_16 : decode cL_law 16 = .ok (.iconst 1, 1) := by decide +kernel
theorem dL_law_17 : decode cL_law 17 = .ok (.newarray .long, 2) := by decide +kernel
theorem dL_law_19 : decode cL_law 19 = .ok (.astore_n 3, 1) := by decide +kernel
theorem dL_law_20 : decode cL_law 20 = .ok (.iconst 0, 1) := by decide +kernel
theorem dL_law_21 : decode cL_law 21 = .ok (.istore 4, 2) := by decide +kernel
theorem dL_law_23 : decode cL_law 23 = .ok (.iload 4, 2) := by decide +kernel
theorem dL_law_25 : decode cL_law 25 = .ok (.aload_n 0, 1) := by decide +kernel
theorem dL_law_26 : decode cL_law 26 = .ok (.arraylength, 1) := by decide +kernel
theorem dL_law_27 : decode cL_law 27 = .ok (.iconst 4, 1) := by decide +kernel
theorem dL_law_28 : decode cL_law 28 = .ok (.isub, 1) := by decide +kernel
theorem dL_law_29 : decode cL_law 29 = .ok (.if_icmp .gt 1522, 3) := by decide +kernel
theorem dL_law_32 : decode cL_law 32 = .ok (.aload_n 0, 1) := by decide +kernel
theorem dL_law_33 : decode cL_law 33 = .ok (.iload 4, 2) := by decide +kernel
theorem dL_law_35 : decode cL_law 35 = .ok (.iaload, 1) := by decide +kernel
theorem dL_law_36 : decode cL_law 36 = .ok (.bipush 31, 2) := by decide +kernel
theorem dL_law_38 : decode cL_law 38 = .ok (.iand, 1) := by decide +kernel
theorem dL_law_39 : decode cL_law 39 = .ok (.tableswitch 1506 0 26 #[121, 189, 269, 325, 393, 449, 505, 561, 617, 673, 717, 785, 853, 909, 965, 1021, 1077, 1133, 1189, 1230, 1286, 1299, 1312, 1380, 1436, 1449, 1462], 121) := by decide +kernel
theorem dL_law_160 : decode cL_law 160 = .ok (.aload_n 1, 1) := by decide +kernel
theorem dL_law_161 : decode cL_law 161 = .ok (.aload_n 0, 1) := by decide +kernel
theorem dL_law_162 : decode cL_law 162 = .ok (.iload 4, 2) := by decide +kernel
theorem dL_law_164 : decode cL_law 164 = .ok (.iconst 1, 1) := by decide +kernel
theorem dL_law_165 : decode cL_law 165 = .ok (.iadd, 1) := by decide +kernel
theorem dL_law_166 : decode cL_law 166 = .ok (.iaload, 1) := by decide +kernel
theorem dL_law_167 : decode cL_law 167 = .ok (.aload_n 0, 1) := by decide +kernel
theorem dL_law_168 : decode cL_law 168 = .ok (.iload 4, 2) := by decide +kernel
theorem dL_law_170 : decode cL_law 170 = .ok (.iconst 2, 1) := by decide +kernel
theorem dL_law_171 : decode cL_law 171 = .ok (.iadd, 1) := by decide +kernel
theorem dL_law_172 : decode cL_law 172 = .ok (.iaload, 1) := by decide +kernel
theorem dL_law_173 : decode cL_law 173 = .ok (.aload_n 3, 1) := by decide +kernel
theorem dL_law_174 : decode cL_law 174 = .ok (.invokestatic 89, 3) := by decide +kernel
theorem dL_law_177 : decode cL_law 177 = .ok (.istore 5, 2) := by decide +kernel
theorem dL_law_179 : decode cL_law 179 = .ok (.aload_n 2, 1) := by decide +kernel
theorem dL_law_180 : decode cL_law 180 = .ok (.aload_n 0, 1) := by decide +kernel
theorem dL_law_181 : decode cL_law 181 = .ok (.iload 4, 2) := by decide +kernel
theorem dL_law_183 : decode cL_law 183 = .ok (.iconst 1, 1) := by decide +kernel
theorem dL_law_184 : decode cL_law 184 = .ok (.iadd, 1) := by decide +kernel
theorem dL_law_185 : decode cL_law 185 = .ok (.iaload, 1) := by decide +kernel
theorem dL_law_186 : decode cL_law 186 = .ok (.aload_n 0, 1) := by decide +kernel
theorem dL_law_187 : decode cL_law 187 = .ok (.iload 4, 2) := by decide +kernel
theorem dL_law_189 : decode cL_law 189 = .ok (.iconst 2, 1) := by decide +kernel
theorem dL_law_190 : decode cL_law 190 = .ok (.iadd, 1) := by decide +kernel
theorem dL_law_191 : decode cL_law 191 = .ok (.iaload, 1) := by decide +kernel
theorem dL_law_192 : decode cL_law 192 = .ok (.invokevirtual 94, 3) := by decide +kernel
theorem dL_law_195 : decode cL_law 195 = .ok (.istore 6, 2) := by decide +kernel
theorem dL_law_197 : decode cL_law 197 = .ok (.aload_n 2, 1) := by decide +kernel
theorem dL_law_198 : decode cL_law 198 = .ok (.invokevirtual 95, 3) := by decide +kernel
theorem dL_law_201 : decode cL_law 201 = .ok (.iload 5, 2) := by decide +kernel
theorem dL_law_203 : decode cL_law 203 = .ok (.if_icmp .eq 5, 3) := by decide +kernel
theorem dL_law_206 : decode cL_law 206 = .ok (.iconst 0, 1) := by decide +kernel
theorem dL_law_207 : decode cL_law 207 = .ok (.ireturn, 1) := by decide +kernel
theorem dL_law_208 : decode cL_law 208 = .ok (.iload 5, 2) := by decide +kernel
theorem dL_law_210 : decode cL_law 210 = .ok (.ifCond .ne 15, 3) := by decide +kernel
theorem dL_law_213 : decode cL_law 213 = .ok (.aload_n 3, 1) := by decide +kernel
theorem dL_law_214 : decode cL_law 214 = .ok (.iconst 0, 1) := by decide +kernel
theorem dL_law_215 : decode cL_law 215 = .ok (.laload, 1) := by decide +kernel
theorem dL_law_216 : decode cL_law 216 = .ok (.iload 6, 2) := by decide +kernel
theorem dL_law_218 : decode cL_law 218 = .ok (.i2l, 1) := by decide +kernel
theorem dL_law_219 : decode cL_law 219 = .ok (.lcmp, 1) := by decide +kernel
theorem dL_law_220 : decode cL_law 220 = .ok (.ifCond .eq 5, 3) := by decide +kernel
theorem dL_law_223 : decode cL_law 223 = .ok (.iconst 0, 1) := by decide +kernel
theorem dL_law_224 : decode cL_law 224 = .ok (.ireturn, 1) := by decide +kernel
theorem dL_law_225 : decode cL_law 225 = .ok (.goto 1320, 3) := by decide +kernel
theorem dL_law_228 : decode cL_law 228 = .ok (.aload_n 1, 1) := by decide +kernel
theorem dL_law_229 : decode cL_law 229 = .ok (.aload_n 0, 1) := by decide +kernel
theorem dL_law_230 : decode cL_law 230 = .ok (.iload 4, 2) := by decide +kernel
theorem dL_law_232 : decode cL_law 232 = .ok (.iconst 1, 1) := by decide +kernel
theorem dL_law_233 : decode cL_law 233 = .ok (.iadd, 1) := by decide +kernel
theorem dL_law_234 : decode cL_law 234 = .ok (.iaload, 1) := by decide +kernel
theorem dL_law_235 : decode cL_law 235 = .ok (.aload_n 0, 1) := by decide +kernel
theorem dL_law_236 : decode cL_law 236 = .ok (.iload 4, 2) := by decide +kernel
theorem dL_law_238 : decode cL_law 238 = .ok (.iconst 2, 1) := by decide +kernel
theorem dL_law_239 : decode cL_law 239 = .ok (.iadd, 1) := by decide +kernel
theorem dL_law_240 : decode cL_law 240 = .ok (.iaload, 1) := by decide +kernel
theorem dL_law_241 : decode cL_law 241 = .ok (.aload_n 0, 1) := by decide +kernel
theorem dL_law_242 : decode cL_law 242 = .ok (.iload 4, 2) := by decide +kernel
theorem dL_law_244 : decode cL_law 244 = .ok (.iconst 3, 1) := by decide +kernel
theorem dL_law_245 : decode cL_law 245 = .ok (.iadd, 1) := by decide +kernel
theorem dL_law_246 : decode cL_law 246 = .ok (.iaload, 1) := by decide +kernel
theorem dL_law_247 : decode cL_law 247 = .ok (.aload_n 3, 1) := by decide +kernel
theorem dL_law_248 : decode cL_law 248 = .ok (.invokestatic 98, 3) := by decide +kernel
theorem dL_law_251 : decode cL_law 251 = .ok (.istore 5, 2) := by decide +kernel
theorem dL_law_253 : decode cL_law 253 = .ok (.aload_n 2, 1) := by decide +kernel
theorem dL_law_254 : decode cL_law 254 = .ok (.aload_n 0, 1) := by decide +kernel
theorem dL_law_255 : decode cL_law 255 = .ok (.iload 4, 2) := by decide +kernel
theorem dL_law_257 : decode cL_law 257 = .ok (.iconst 1, 1) := by decide +kernel
theorem dL_law_258 : decode cL_law 258 = .ok (.iadd, 1) := by decide +kernel
theorem dL_law_259 : decode cL_law 259 = .ok (.iaload, 1) := by decide +kernel
theorem dL_law_260 : decode cL_law 260 = .ok (.aload_n 0, 1) := by decide +kernel
theorem dL_law_261 : decode cL_law 261 = .ok (.iload 4, 2) := by decide +kernel
theorem dL_law_263 : decode cL_law 263 = .ok (.iconst 2, 1) := by decide +kernel
theorem dL_law_264 : decode cL_law 264 = .ok (.iadd, 1) := by decide +kernel
theorem dL_law_265 : decode cL_law 265 = .ok (.iaload, 1) := by decide +kernel
theorem dL_law_266 : decode cL_law 266 = .ok (.aload_n 0, 1) := by decide +kernel
theorem dL_law_267 : decode cL_law 267 = .ok (.iload 4, 2) := by decide +kernel
theorem dL_law_269 : decode cL_law 269 = .ok (.iconst 3, 1) := by decide +kernel
theorem dL_law_270 : decode cL_law 270 = .ok (.iadd, 1) := by decide +kernel
theorem dL_law_271 : decode cL_law 271 = .ok (.iaload, 1) := by decide +kernel
theorem dL_law_272 : decode cL_law 272 = .ok (.invokevirtual 101, 3) := by decide +kernel
theorem dL_law_275 : decode cL_law 275 = .ok (.istore 6, 2) := by decide +kernel
theorem dL_law_277 : decode cL_law 277 = .ok (.aload_n 2, 1) := by decide +kernel
theorem dL_law_278 : decode cL_law 278 = .ok (.invokevirtual 95, 3) := by decide +kernel
theorem dL_law_281 : decode cL_law 281 = .ok (.iload 5, 2) := by decide +kernel
theorem dL_law_283 : decode cL_law 283 = .ok (.if_icmp .eq 5, 3) := by decide +kernel
theorem dL_law_286 : decode cL_law 286 = .ok (.iconst 0, 1) := by decide +kernel
theorem dL_law_287 : decode cL_law 287 = .ok (.ireturn, 1) := by decide +kernel
theorem dL_law_288 : decode cL_law 288 = .ok (.iload 5, 2) := by decide +kernel
theorem dL_law_290 : decode cL_law 290 = .ok (.ifCond .ne 15, 3) := by decide +kernel
theorem dL_law_293 : decode cL_law 293 = .ok (.aload_n 3, 1) := by decide +kernel
theorem dL_law_294 : decode cL_law 294 = .ok (.iconst 0, 1) := by decide +kernel
theorem dL_law_295 : decode cL_law 295 = .ok (.laload, 1) := by decide +kernel
theorem dL_law_296 : decode cL_law 296 = .ok (.iload 6, 2) := by decide +kernel
theorem dL_law_298 : decode cL_law 298 = .ok (.i2l, 1) := by decide +kernel
theorem dL_law_299 : decode cL_law 299 = .ok (.lcmp, 1) := by decide +kernel
theorem dL_law_300 : decode cL_law 300 = .ok (.ifCond .eq 5, 3) := by decide +kernel
theorem dL_law_303 : decode cL_law 303 = .ok (.iconst 0, 1) := by decide +kernel
theorem dL_law_304 : decode cL_law 304 = .ok (.ireturn, 1) := by decide +kernel
theorem dL_law_305 : decode cL_law 305 = .ok (.goto 1240, 3) := by decide +kernel
theorem dL_law_308 : decode cL_law 308 = .ok (.aload_n 1, 1) := by decide +kernel
theorem dL_law_309 : decode cL_law 309 = .ok (.aload_n 0, 1) := by decide +kernel
theorem dL_law_310 : decode cL_law 310 = .ok (.iload 4, 2) := by decide +kernel
theorem dL_law_312 : decode cL_law 312 = .ok (.iconst 1, 1) := by decide +kernel
theorem dL_law_313 : decode cL_law 313 = .ok (.iadd, 1) := by decide +kernel
theorem dL_law_314 : decode cL_law 314 = .ok (.iaload, 1) := by decide +kernel
theorem dL_law_315 : decode cL_law 315 = .ok (.aload_n 3, 1) := by decide +kernel
theorem dL_law_316 : decode cL_law 316 = .ok (.invokestatic 102, 3) := by decide +kernel
theorem dL_law_319 : decode cL_law 319 = .ok (.istore 5, 2) := by decide +kernel
theorem dL_law_321 : decode cL_law 321 = .ok (.aload_n 2, 1) := by decide +kernel
theorem dL_law_322 : decode cL_law 322 = .ok (.aload_n 0, 1) := by decide +kernel
theorem dL_law_323 : decode cL_law 323 = .ok (.iload 4, 2) := by decide +kernel
theorem dL_law_325 : decode cL_law 325 = .ok (.iconst 1, 1) := by decide +kernel
theorem dL_law_326 : decode cL_law 326 = .ok (.iadd, 1) := by decide +kernel
theorem dL_law_327 : decode cL_law 327 = .ok (.iaload, 1) := by decide +kernel
theorem dL_law_328 : decode cL_law 328 = .ok (.invokevirtual 105, 3) := by decide +kernel
theorem dL_law_331 : decode cL_law 331 = .ok (.istore 6, 2) := by decide +kernel
theorem dL_law_333 : decode cL_law 333 = .ok (.aload_n 2, 1) := by decide +kernel
theorem dL_law_334 : decode cL_law 334 = .ok (.invokevirtual 95, 3) := by decide +kernel
theorem dL_law_337 : decode cL_law 337 = .ok (.iload 5, 2) := by decide +kernel
theorem dL_law_339 : decode cL_law 339 = .ok (.if_icmp .eq 5, 3) := by decide +kernel
theorem dL_law_342 : decode cL_law 342 = .ok (.iconst 0, 1) := by decide +kernel
theorem dL_law_343 : decode cL_law 343 = .ok (.ireturn, 1) := by decide +kernel
theorem dL_law_344 : decode cL_law 344 = .ok (.iload 5, 2) := by decide +kernel
theorem dL_law_346 : decode cL_law 346 = .ok (.ifCond .ne 15, 3) := by decide +kernel
theorem dL_law_349 : decode cL_law 349 = .ok (.aload_n 3, 1) := by decide +kernel
theorem dL_law_350 : decode cL_law 350 = .ok (.iconst 0, 1) := by decide +kernel
theorem dL_law_351 : decode cL_law 351 = .ok (.laload, 1) := by decide +kernel
theorem dL_law_352 : decode cL_law 352 = .ok (.iload 6, 2) := by decide +kernel
theorem dL_law_354 : decode cL_law 354 = .ok (.i2l, 1) := by decide +kernel
theorem dL_law_355 : decode cL_law 355 = .ok (.lcmp, 1) := by decide +kernel
theorem dL_law_356 : decode cL_law 356 = .ok (.ifCond .eq 5, 3) := by decide +kernel
theorem dL_law_359 : decode cL_law 359 = .ok (.iconst 0, 1) := by decide +kernel
theorem dL_law_360 : decode cL_law 360 = .ok (.ireturn, 1) := by decide +kernel
theorem dL_law_361 : decode cL_law 361 = .ok (.goto 1184, 3) := by decide +kernel
theorem dL_law_364 : decode cL_law 364 = .ok (.aload_n 1, 1) := by decide +kernel
theorem dL_law_365 : decode cL_law 365 = .ok (.aload_n 0, 1) := by decide +kernel
theorem dL_law_366 : decode cL_law 366 = .ok (.iload 4, 2) := by decide +kernel
theorem dL_law_368 : decode cL_law 368 = .ok (.iconst 1, 1) := by decide +kernel
theorem dL_law_369 : decode cL_law 369 = .ok (.iadd, 1) := by decide +kernel
theorem dL_law_370 : decode cL_law 370 = .ok (.iaload, 1) := by decide +kernel
theorem dL_law_371 : decode cL_law 371 = .ok (.aload_n 0, 1) := by decide +kernel
theorem dL_law_372 : decode cL_law 372 = .ok (.iload 4, 2) := by decide +kernel
theorem dL_law_374 : decode cL_law 374 = .ok (.iconst 2, 1) := by decide +kernel
theorem dL_law_375 : decode cL_law 375 = .ok (.iadd, 1) := by decide +kernel
theorem dL_law_376 : decode cL_law 376 = .ok (.iaload, 1) := by decide +kernel
theorem dL_law_377 : decode cL_law 377 = .ok (.aload_n 3, 1) := by decide +kernel
theorem dL_law_378 : decode cL_law 378 = .ok (.invokestatic 106, 3) := by decide +kernel
theorem dL_law_381 : decode cL_law 381 = .ok (.istore 5, 2) := by decide +kernel
theorem dL_law_383 : decode cL_law 383 = .ok (.aload_n 2, 1) := by decide +kernel
theorem dL_law_384 : decode cL_law 384 = .ok (.aload_n 0, 1) := by decide +kernel
theorem dL_law_385 : decode cL_law 385 = .ok (.iload 4, 2) := by decide +kernel
theorem dL_law_387 : decode cL_law 387 = .ok (.iconst 1, 1) := by decide +kernel
theorem dL_law_388 : decode cL_law 388 = .ok (.iadd, 1) := by decide +kernel
theorem dL_law_389 : decode cL_law 389 = .ok (.iaload, 1) := by decide +kernel
theorem dL_law_390 : decode cL_law 390 = .ok (.aload_n 0, 1) := by decide +kernel
theorem dL_law_391 : decode cL_law 391 = .ok (.iload 4, 2) := by decide +kernel
theorem dL_law_393 : decode cL_law 393 = .ok (.iconst 2, 1) := by decide +kernel
theorem dL_law_394 : decode cL_law 394 = .ok (.iadd, 1) := by decide +kernel
theorem dL_law_395 : decode cL_law 395 = .ok (.iaload, 1) := by decide +kernel
theorem dL_law_396 : decode cL_law 396 = .ok (.invokevirtual 108, 3) := by decide +kernel
theorem dL_law_399 : decode cL_law 399 = .ok (.istore 6, 2) := by decide +kernel
theorem dL_law_401 : decode cL_law 401 = .ok (.aload_n 2, 1) := by decide +kernel
theorem dL_law_402 : decode cL_law 402 = .ok (.invokevirtual 95, 3) := by decide +kernel
theorem dL_law_405 : decode cL_law 405 = .ok (.iload 5, 2) := by decide +kernel
theorem dL_law_407 : decode cL_law 407 = .ok (.if_icmp .eq 5, 3) := by decide +kernel
theorem dL_law_410 : decode cL_law 410 = .ok (.iconst 0, 1) := by decide +kernel
theorem dL_law_411 : decode cL_law 411 = .ok (.ireturn, 1) := by decide +kernel
theorem dL_law_412 : decode cL_law 412 = .ok (.iload 5, 2) := by decide +kernel
theorem dL_law_414 : decode cL_law 414 = .ok (.ifCond .ne 15, 3) := by decide +kernel
theorem dL_law_417 : decode cL_law 417 = .ok (.aload_n 3, 1) := by decide +kernel
theorem dL_law_418 : decode cL_law 418 = .ok (.iconst 0, 1) := by decide +kernel
theorem dL_law_419 : decode cL_law 419 = .ok (.laload, 1) := by decide +kernel
theorem dL_law_420 : decode cL_law 420 = .ok (.iload 6, 2) := by decide +kernel
theorem dL_law_422 : decode cL_law 422 = .ok (.i2l, 1) := by decide +kernel
theorem dL_law_423 : decode cL_law 423 = .ok (.lcmp, 1) := by decide +kernel
theorem dL_law_424 : decode cL_law 424 = .ok (.ifCond .eq 5, 3) := by decide +kernel
theorem dL_law_427 : decode cL_law 427 = .ok (.iconst 0, 1) := by decide +kernel
theorem dL_law_428 : decode cL_law 428 = .ok (.ireturn, 1) := by decide +kernel
theorem dL_law_429 : decode cL_law 429 = .ok (.goto 1116, 3) := by decide +kernel
theorem dL_law_432 : decode cL_law 432 = .ok (.aload_n 1, 1) := by decide +kernel
theorem dL_law_433 : decode cL_law 433 = .ok (.aload_n 0, 1) := by decide +kernel
theorem dL_law_434 : decode cL_law 434 = .ok (.iload 4, 2) := by decide +kernel
theorem dL_law_436 : decode cL_law 436 = .ok (.iconst 1, 1) := by decide +kernel
theorem dL_law_437 : decode cL_law 437 = .ok (.iadd, 1) := by decide +kernel
theorem dL_law_438 : decode cL_law 438 = .ok (.iaload, 1) := by decide +kernel
theorem dL_law_439 : decode cL_law 439 = .ok (.aload_n 3, 1) := by decide +kernel
theorem dL_law_440 : decode cL_law 440 = .ok (.invokestatic 109, 3) := by decide +kernel
theorem dL_law_443 : decode cL_law 443 = .ok (.istore 5, 2) := by decide +kernel
theorem dL_law_445 : decode cL_law 445 = .ok (.aload_n 2, 1) := by decide +kernel
theorem dL_law_446 : decode cL_law 446 = .ok (.aload_n 0, 1) := by decide +kernel
theorem dL_law_447 : decode cL_law 447 = .ok (.iload 4, 2) := by decide +kernel
theorem dL_law_449 : decode cL_law 449 = .ok (.iconst 1, 1) := by decide +kernel
theorem dL_law_450 : decode cL_law 450 = .ok (.iadd, 1) := by decide +kernel
theorem dL_law_451 : decode cL_law 451 = .ok (.iaload, 1) := by decide +kernel
theorem dL_law_452 : decode cL_law 452 = .ok (.invokevirtual 111, 3) := by decide +kernel
theorem dL_law_455 : decode cL_law 455 = .ok (.istore 6, 2) := by decide +kernel
theorem dL_law_457 : decode cL_law 457 = .ok (.aload_n 2, 1) := by decide +kernel
theorem dL_law_458 : decode cL_law 458 = .ok (.invokevirtual 95, 3) := by decide +kernel
theorem dL_law_461 : decode cL_law 461 = .ok (.iload 5, 2) := by decide +kernel
theorem dL_law_463 : decode cL_law 463 = .ok (.if_icmp .eq 5, 3) := by decide +kernel
theorem dL_law_466 : decode cL_law 466 = .ok (.iconst 0, 1) := by decide +kernel
theorem dL_law_467 : decode cL_law 467 = .ok (.ireturn, 1) := by decide +kernel
theorem dL_law_468 : decode cL_law 468 = .ok (.iload 5, 2) := by decide +kernel
theorem dL_law_470 : decode cL_law 470 = .ok (.ifCond .ne 15, 3) := by decide +kernel
theorem dL_law_473 : decode cL_law 473 = .ok (.aload_n 3, 1) := by decide +kernel
theorem dL_law_474 : decode cL_law 474 = .ok (.iconst 0, 1) := by decide +kernel
theorem dL_law_475 : decode cL_law 475 = .ok (.laload, 1) := by decide +kernel
theorem dL_law_476 : decode cL_law 476 = .ok (.iload 6, 2) := by decide +kernel
theorem dL_law_478 : decode cL_law 478 = .ok (.i2l, 1) := by decide +kernel
theorem dL_law_479 : decode cL_law 479 = .ok (.lcmp, 1) := by decide +kernel
theorem dL_law_480 : decode cL_law 480 = .ok (.ifCond .eq 5, 3) := by decide +kernel
theorem dL_law_483 : decode cL_law 483 = .ok (.iconst 0, 1) := by decide +kernel
theorem dL_law_484 : decode cL_law 484 = .ok (.ireturn, 1) := by decide +kernel
theorem dL_law_485 : decode cL_law 485 = .ok (.goto 1060, 3) := by decide +kernel
theorem dL_law_488 : decode cL_law 488 = .ok (.aload_n 1, 1) := by decide +kernel
theorem dL_law_489 : decode cL_law 489 = .ok (.aload_n 0, 1) := by decide +kernel
theorem dL_law_490 : decode cL_law 490 = .ok (.iload 4, 2) := by decide +kernel
theorem dL_law_492 : decode cL_law 492 = .ok (.iconst 1, 1) := by decide +kernel
theorem dL_law_493 : decode cL_law 493 = .ok (.iadd, 1) := by decide +kernel
theorem dL_law_494 : decode cL_law 494 = .ok (.iaload, 1) := by decide +kernel
theorem dL_law_495 : decode cL_law 495 = .ok (.aload_n 3, 1) := by decide +kernel
theorem dL_law_496 : decode cL_law 496 = .ok (.invokestatic 112, 3) := by decide +kernel
theorem dL_law_499 : decode cL_law 499 = .ok (.istore 5, 2) := by decide +kernel
theorem dL_law_501 : decode cL_law 501 = .ok (.aload_n 2, 1) := by decide +kernel
theorem dL_law_502 : decode cL_law 502 = .ok (.aload_n 0, 1) := by decide +kernel
theorem dL_law_503 : decode cL_law 503 = .ok (.iload 4, 2) := by decide +kernel
theorem dL_law_505 : decode cL_law 505 = .ok (.iconst 1, 1) := by decide +kernel
theorem dL_law_506 : decode cL_law 506 = .ok (.iadd, 1) := by decide +kernel
theorem dL_law_507 : decode cL_law 507 = .ok (.iaload, 1) := by decide +kernel
theorem dL_law_508 : decode cL_law 508 = .ok (.invokevirtual 114, 3) := by decide +kernel
theorem dL_law_511 : decode cL_law 511 = .ok (.istore 6, 2) := by decide +kernel
theorem dL_law_513 : decode cL_law 513 = .ok (.aload_n 2, 1) := by decide +kernel
theorem dL_law_514 : decode cL_law 514 = .ok (.invokevirtual 95, 3) := by decide +kernel
theorem dL_law_517 : decode cL_law 517 = .ok (.iload 5, 2) := by decide +kernel
theorem dL_law_519 : decode cL_law 519 = .ok (.if_icmp .eq 5, 3) := by decide +kernel
theorem dL_law_522 : decode cL_law 522 = .ok (.iconst 0, 1) := by decide +kernel
theorem dL_law_523 : decode cL_law 523 = .ok (.ireturn, 1) := by decide +kernel
theorem dL_law_524 : decode cL_law 524 = .ok (.iload 5, 2) := by decide +kernel
theorem dL_law_526 : decode cL_law 526 = .ok (.ifCond .ne 15, 3) := by decide +kernel
theorem dL_law_529 : decode cL_law 529 = .ok (.aload_n 3, 1) := by decide +kernel
theorem dL_law_530 : decode cL_law 530 = .ok (.iconst 0, 1) := by decide +kernel
theorem dL_law_531 : decode cL_law 531 = .ok (.laload, 1) := by decide +kernel
theorem dL_law_532 : decode cL_law 532 = .ok (.iload 6, 2) := by decide +kernel
theorem dL_law_534 : decode cL_law 534 = .ok (.i2l, 1) := by decide +kernel
theorem dL_law_535 : decode cL_law 535 = .ok (.lcmp, 1) := by decide +kernel
theorem dL_law_536 : decode cL_law 536 = .ok (.ifCond .eq 5, 3) := by decide +kernel
theorem dL_law_539 : decode cL_law 539 = .ok (.iconst 0, 1) := by decide +kernel
theorem dL_law_540 : decode cL_law 540 = .ok (.ireturn, 1) := by decide +kernel
theorem dL_law_541 : decode cL_law 541 = .ok (.goto 1004, 3) := by decide +kernel
theorem dL_law_544 : decode cL_law 544 = .ok (.aload_n 1, 1) := by decide +kernel
theorem dL_law_545 : decode cL_law 545 = .ok (.aload_n 0, 1) := by decide +kernel
theorem dL_law_546 : decode cL_law 546 = .ok (.iload 4, 2) := by decide +kernel
theorem dL_law_548 : decode cL_law 548 = .ok (.iconst 1, 1) := by decide +kernel
theorem dL_law_549 : decode cL_law 549 = .ok (.iadd, 1) := by decide +kernel
theorem dL_law_550 : decode cL_law 550 = .ok (.iaload, 1) := by decide +kernel
theorem dL_law_551 : decode cL_law 551 = .ok (.aload_n 3, 1) := by decide +kernel
theorem dL_law_552 : decode cL_law 552 = .ok (.invokestatic 115, 3) := by decide +kernel
theorem dL_law_555 : decode cL_law 555 = .ok (.istore 5, 2) := by decide +kernel
theorem dL_law_557 : decode cL_law 557 = .ok (.aload_n 2, 1) := by decide +kernel
theorem dL_law_558 : decode cL_law 558 = .ok (.aload_n 0, 1) := by decide +kernel
theorem dL_law_559 : decode cL_law 559 = .ok (.iload 4, 2) := by decide +kernel
theorem dL_law_561 : decode cL_law 561 = .ok (.iconst 1, 1) := by decide +kernel
theorem dL_law_562 : decode cL_law 562 = .ok (.iadd, 1) := by decide +kernel
theorem dL_law_563 : decode cL_law 563 = .ok (.iaload, 1) := by decide +kernel
theorem dL_law_564 : decode cL_law 564 = .ok (.invokevirtual 117, 3) := by decide +kernel
theorem dL_law_567 : decode cL_law 567 = .ok (.istore 6, 2) := by decide +kernel
theorem dL_law_569 : decode cL_law 569 = .ok (.aload_n 2, 1) := by decide +kernel
theorem dL_law_570 : decode cL_law 570 = .ok (.invokevirtual 95, 3) := by decide +kernel
theorem dL_law_573 : decode cL_law 573 = .ok (.iload 5, 2) := by decide +kernel
theorem dL_law_575 : decode cL_law 575 = .ok (.if_icmp .eq 5, 3) := by decide +kernel
theorem dL_law_578 : decode cL_law 578 = .ok (.iconst 0, 1) := by decide +kernel
theorem dL_law_579 : decode cL_law 579 = .ok (.ireturn, 1) := by decide +kernel
theorem dL_law_580 : decode cL_law 580 = .ok (.iload 5, 2) := by decide +kernel
theorem dL_law_582 : decode cL_law 582 = .ok (.ifCond .ne 15, 3) := by decide +kernel
theorem dL_law_585 : decode cL_law 585 = .ok (.aload_n 3, 1) := by decide +kernel
theorem dL_law_586 : decode cL_law 586 = .ok (.iconst 0, 1) := by decide +kernel
theorem dL_law_587 : decode cL_law 587 = .ok (.laload, 1) := by decide +kernel
theorem dL_law_588 : decode cL_law 588 = .ok (.iload 6, 2) := by decide +kernel
theorem dL_law_590 : decode cL_law 590 = .ok (.i2l, 1) := by decide +kernel
theorem dL_law_591 : decode cL_law 591 = .ok (.lcmp, 1) := by decide +kernel
theorem dL_law_592 : decode cL_law 592 = .ok (.ifCond .eq 5, 3) := by decide +kernel
theorem dL_law_595 : decode cL_law 595 = .ok (.iconst 0, 1) := by decide +kernel
theorem dL_law_596 : decode cL_law 596 = .ok (.ireturn, 1) := by decide +kernel
theorem dL_law_597 : decode cL_law 597 = .ok (.goto 948, 3) := by decide +kernel
theorem dL_law_600 : decode cL_law 600 = .ok (.aload_n 1, 1) := by decide +kernel
theorem dL_law_601 : decode cL_law 601 = .ok (.aload_n 0, 1) := by decide +kernel
theorem dL_law_602 : decode cL_law 602 = .ok (.iload 4, 2) := by decide +kernel
theorem dL_law_604 : decode cL_law 604 = .ok (.iconst 1, 1) := by decide +kernel
theorem dL_law_605 : decode cL_law 605 = .ok (.iadd, 1) := by decide +kernel
theorem dL_law_606 : decode cL_law 606 = .ok (.iaload, 1) := by decide +kernel
theorem dL_law_607 : decode cL_law 607 = .ok (.aload_n 3, 1) := by decide +kernel
theorem dL_law_608 : decode cL_law 608 = .ok (.invokestatic 118, 3) := by decide +kernel
theorem dL_law_611 : decode cL_law 611 = .ok (.istore 5, 2) := by decide +kernel
theorem dL_law_613 : decode cL_law 613 = .ok (.aload_n 2, 1) := by decide +kernel
theorem dL_law_614 : decode cL_law 614 = .ok (.aload_n 0, 1) := by decide +kernel
theorem dL_law_615 : decode cL_law 615 = .ok (.iload 4, 2) := by decide +kernel
theorem dL_law_617 : decode cL_law 617 = .ok (.iconst 1, 1) := by decide +kernel
theorem dL_law_618 : decode cL_law 618 = .ok (.iadd, 1) := by decide +kernel
theorem dL_law_619 : decode cL_law 619 = .ok (.iaload, 1) := by decide +kernel
theorem dL_law_620 : decode cL_law 620 = .ok (.invokevirtual 120, 3) := by decide +kernel
theorem dL_law_623 : decode cL_law 623 = .ok (.istore 6, 2) := by decide +kernel
theorem dL_law_625 : decode cL_law 625 = .ok (.aload_n 2, 1) := by decide +kernel
theorem dL_law_626 : decode cL_law 626 = .ok (.invokevirtual 95, 3) := by decide +kernel
theorem dL_law_629 : decode cL_law 629 = .ok (.iload 5, 2) := by decide +kernel
theorem dL_law_631 : decode cL_law 631 = .ok (.if_icmp .eq 5, 3) := by decide +kernel
theorem dL_law_634 : decode cL_law 634 = .ok (.iconst 0, 1) := by decide +kernel
theorem dL_law_635 : decode cL_law 635 = .ok (.ireturn, 1) := by decide +kernel
theorem dL_law_636 : decode cL_law 636 = .ok (.iload 5, 2) := by decide +kernel
theorem dL_law_638 : decode cL_law 638 = .ok (.ifCond .ne 15, 3) := by decide +kernel
theorem dL_law_641 : decode cL_law 641 = .ok (.aload_n 3, 1) := by decide +kernel
theorem dL_law_642 : decode cL_law 642 = .ok (.iconst 0, 1) := by decide +kernel
theorem dL_law_643 : decode cL_law 643 = .ok (.laload, 1) := by decide +kernel
theorem dL_law_644 : decode cL_law 644 = .ok (.iload 6, 2) := by decide +kernel
theorem dL_law_646 : decode cL_law 646 = .ok (.i2l, 1) := by decide +kernel
theorem dL_law_647 : decode cL_law 647 = .ok (.lcmp, 1) := by decide +kernel
theorem dL_law_648 : decode cL_law 648 = .ok (.ifCond .eq 5, 3) := by decide +kernel
theorem dL_law_651 : decode cL_law 651 = .ok (.iconst 0, 1) := by decide +kernel
theorem dL_law_652 : decode cL_law 652 = .ok (.ireturn, 1) := by decide +kernel
theorem dL_law_653 : decode cL_law 653 = .ok (.goto 892, 3) := by decide +kernel
theorem dL_law_656 : decode cL_law 656 = .ok (.aload_n 1, 1) := by decide +kernel
theorem dL_law_657 : decode cL_law 657 = .ok (.aload_n 0, 1) := by decide +kernel
theorem dL_law_658 : decode cL_law 658 = .ok (.iload 4, 2) := by decide +kernel
theorem dL_law_660 : decode cL_law 660 = .ok (.iconst 1, 1) := by decide +kernel
theorem dL_law_661 : decode cL_law 661 = .ok (.iadd, 1) := by decide +kernel
theorem dL_law_662 : decode cL_law 662 = .ok (.iaload, 1) := by decide +kernel
theorem dL_law_663 : decode cL_law 663 = .ok (.aload_n 3, 1) := by decide +kernel
theorem dL_law_664 : decode cL_law 664 = .ok (.invokestatic 121, 3) := by decide +kernel
theorem dL_law_667 : decode cL_law 667 = .ok (.istore 5, 2) := by decide +kernel
theorem dL_law_669 : decode cL_law 669 = .ok (.aload_n 2, 1) := by decide +kernel
theorem dL_law_670 : decode cL_law 670 = .ok (.aload_n 0, 1) := by decide +kernel
theorem dL_law_671 : decode cL_law 671 = .ok (.iload 4, 2) := by decide +kernel
theorem dL_law_673 : decode cL_law 673 = .ok (.iconst 1, 1) := by decide +kernel
theorem dL_law_674 : decode cL_law 674 = .ok (.iadd, 1) := by decide +kernel
theorem dL_law_675 : decode cL_law 675 = .ok (.iaload, 1) := by decide +kernel
theorem dL_law_676 : decode cL_law 676 = .ok (.invokevirtual 123, 3) := by decide +kernel
theorem dL_law_679 : decode cL_law 679 = .ok (.istore 6, 2) := by decide +kernel
theorem dL_law_681 : decode cL_law 681 = .ok (.aload_n 2, 1) := by decide +kernel
theorem dL_law_682 : decode cL_law 682 = .ok (.invokevirtual 95, 3) := by decide +kernel
theorem dL_law_685 : decode cL_law 685 = .ok (.iload 5, 2) := by decide +kernel
theorem dL_law_687 : decode cL_law 687 = .ok (.if_icmp .eq 5, 3) := by decide +kernel
theorem dL_law_690 : decode cL_law 690 = .ok (.iconst 0, 1) := by decide +kernel
theorem dL_law_691 : decode cL_law 691 = .ok (.ireturn, 1) := by decide +kernel
theorem dL_law_692 : decode cL_law 692 = .ok (.iload 5, 2) := by decide +kernel
theorem dL_law_694 : decode cL_law 694 = .ok (.ifCond .ne 15, 3) := by decide +kernel
theorem dL_law_697 : decode cL_law 697 = .ok (.aload_n 3, 1) := by decide +kernel
theorem dL_law_698 : decode cL_law 698 = .ok (.iconst 0, 1) := by decide +kernel
theorem dL_law_699 : decode cL_law 699 = .ok (.laload, 1) := by decide +kernel
theorem dL_law_700 : decode cL_law 700 = .ok (.iload 6, 2) := by decide +kernel
theorem dL_law_702 : decode cL_law 702 = .ok (.i2l, 1) := by decide +kernel
theorem dL_law_703 : decode cL_law 703 = .ok (.lcmp, 1) := by decide +kernel
theorem dL_law_704 : decode cL_law 704 = .ok (.ifCond .eq 5, 3) := by decide +kernel
theorem dL_law_707 : decode cL_law 707 = .ok (.iconst 0, 1) := by decide +kernel
theorem dL_law_708 : decode cL_law 708 = .ok (.ireturn, 1) := by decide +kernel
theorem dL_law_709 : decode cL_law 709 = .ok (.goto 836, 3) := by decide +kernel
theorem dL_law_712 : decode cL_law 712 = .ok (.aload_n 1, 1) := by decide +kernel
theorem dL_law_713 : decode cL_law 713 = .ok (.aload_n 3, 1) := by decide +kernel
theorem dL_law_714 : decode cL_law 714 = .ok (.invokestatic 124, 3) := by decide +kernel
theorem dL_law_717 : decode cL_law 717 = .ok (.istore 5, 2) := by decide +kernel
theorem dL_law_719 : decode cL_law 719 = .ok (.aload_n 2, 1) := by decide +kernel
theorem dL_law_720 : decode cL_law 720 = .ok (.invokevirtual 127, 3) := by decide +kernel
theorem dL_law_723 : decode cL_law 723 = .ok (.istore 6, 2) := by decide +kernel
theorem dL_law_725 : decode cL_law 725 = .ok (.aload_n 2, 1) := by decide +kernel
theorem dL_law_726 : decode cL_law 726 = .ok (.invokevirtual 95, 3) := by decide +kernel
theorem dL_law_729 : decode cL_law 729 = .ok (.iload 5, 2) := by decide +kernel
theorem dL_law_731 : decode cL_law 731 = .ok (.if_icmp .eq 5, 3) := by decide +kernel
theorem dL_law_734 : decode cL_law 734 = .ok (.iconst 0, 1) := by decide +kernel
theorem dL_law_735 : decode cL_law 735 = .ok (.ireturn, 1) := by decide +kernel
theorem dL_law_736 : decode cL_law 736 = .ok (.iload 5, 2) := by decide +kernel
theorem dL_law_738 : decode cL_law 738 = .ok (.ifCond .ne 15, 3) := by decide +kernel
theorem dL_law_741 : decode cL_law 741 = .ok (.aload_n 3, 1) := by decide +kernel
theorem dL_law_742 : decode cL_law 742 = .ok (.iconst 0, 1) := by decide +kernel
theorem dL_law_743 : decode cL_law 743 = .ok (.laload, 1) := by decide +kernel
theorem dL_law_744 : decode cL_law 744 = .ok (.iload 6, 2) := by decide +kernel
theorem dL_law_746 : decode cL_law 746 = .ok (.i2l, 1) := by decide +kernel
theorem dL_law_747 : decode cL_law 747 = .ok (.lcmp, 1) := by decide +kernel
theorem dL_law_748 : decode cL_law 748 = .ok (.ifCond .eq 5, 3) := by decide +kernel
theorem dL_law_751 : decode cL_law 751 = .ok (.iconst 0, 1) := by decide +kernel
theorem dL_law_752 : decode cL_law 752 = .ok (.ireturn, 1) := by decide +kernel
theorem dL_law_753 : decode cL_law 753 = .ok (.goto 792, 3) := by decide +kernel
theorem dL_law_756 : decode cL_law 756 = .ok (.aload_n 1, 1) := by decide +kernel
theorem dL_law_757 : decode cL_law 757 = .ok (.aload_n 0, 1) := by decide +kernel
theorem dL_law_758 : decode cL_law 758 = .ok (.iload 4, 2) := by decide +kernel
theorem dL_law_760 : decode cL_law 760 = .ok (.iconst 1, 1) := by decide +kernel
theorem dL_law_761 : decode cL_law 761 = .ok (.iadd, 1) := by decide +kernel
theorem dL_law_762 : decode cL_law 762 = .ok (.iaload, 1) := by decide +kernel
theorem dL_law_763 : decode cL_law 763 = .ok (.aload_n 0, 1) := by decide +kernel
theorem dL_law_764 : decode cL_law 764 = .ok (.iload 4, 2) := by decide +kernel
theorem dL_law_766 : decode cL_law 766 = .ok (.iconst 2, 1) := by decide +kernel
theorem dL_law_767 : decode cL_law 767 = .ok (.iadd, 1) := by decide +kernel
theorem dL_law_768 : decode cL_law 768 = .ok (.iaload, 1) := by decide +kernel
theorem dL_law_769 : decode cL_law 769 = .ok (.aload_n 3, 1) := by decide +kernel
theorem dL_law_770 : decode cL_law 770 = .ok (.invokestatic 128, 3) := by decide +kernel
theorem dL_law_773 : decode cL_law 773 = .ok (.istore 5, 2) := by decide +kernel
theorem dL_law_775 : decode cL_law 775 = .ok (.aload_n 2, 1) := by decide +kernel
theorem dL_law_776 : decode cL_law 776 = .ok (.aload_n 0, 1) := by decide +kernel
theorem dL_law_777 : decode cL_law 777 = .ok (.iload 4, 2) := by decide +kernel
theorem dL_law_779 : decode cL_law 779 = .ok (.iconst 1, 1) := by decide +kernel
theorem dL_law_780 : decode cL_law 780 = .ok (.iadd, 1) := by decide +kernel
theorem dL_law_781 : decode cL_law 781 = .ok (.iaload, 1) := by decide +kernel
theorem dL_law_782 : decode cL_law 782 = .ok (.aload_n 0, 1) := by decide +kernel
theorem dL_law_783 : decode cL_law 783 = .ok (.iload 4, 2) := by decide +kernel
theorem dL_law_785 : decode cL_law 785 = .ok (.iconst 2, 1) := by decide +kernel
theorem dL_law_786 : decode cL_law 786 = .ok (.iadd, 1) := by decide +kernel
theorem dL_law_787 : decode cL_law 787 = .ok (.iaload, 1) := by decide +kernel
theorem dL_law_788 : decode cL_law 788 = .ok (.invokevirtual 130, 3) := by decide +kernel
theorem dL_law_791 : decode cL_law 791 = .ok (.istore 6, 2) := by decide +kernel
theorem dL_law_793 : decode cL_law 793 = .ok (.aload_n 2, 1) := by decide +kernel
theorem dL_law_794 : decode cL_law 794 = .ok (.invokevirtual 95, 3) := by decide +kernel
theorem dL_law_797 : decode cL_law 797 = .ok (.iload 5, 2) := by decide +kernel
theorem dL_law_799 : decode cL_law 799 = .ok (.if_icmp .eq 5, 3) := by decide +kernel
theorem dL_law_802 : decode cL_law 802 = .ok (.iconst 0, 1) := by decide +kernel
theorem dL_law_803 : decode cL_law 803 = .ok (.ireturn, 1) := by decide +kernel
theorem dL_law_804 : decode cL_law 804 = .ok (.iload 5, 2) := by decide +kernel
theorem dL_law_806 : decode cL_law 806 = .ok (.ifCond .ne 15, 3) := by decide +kernel
theorem dL_law_809 : decode cL_law 809 = .ok (.aload_n 3, 1) := by decide +kernel
theorem dL_law_810 : decode cL_law 810 = .ok (.iconst 0, 1) := by decide +kernel
theorem dL_law_811 : decode cL_law 811 = .ok (.laload, 1) := by decide +kernel
theorem dL_law_812 : decode cL_law 812 = .ok (.iload 6, 2) := by decide +kernel
theorem dL_law_814 : decode cL_law 814 = .ok (.i2l, 1) := by decide +kernel
theorem dL_law_815 : decode cL_law 815 = .ok (.lcmp, 1) := by decide +kernel
theorem dL_law_816 : decode cL_law 816 = .ok (.ifCond .eq 5, 3) := by decide +kernel
theorem dL_law_819 : decode cL_law 819 = .ok (.iconst 0, 1) := by decide +kernel
theorem dL_law_820 : decode cL_law 820 = .ok (.ireturn, 1) := by decide +kernel
theorem dL_law_821 : decode cL_law 821 = .ok (.goto 724, 3) := by decide +kernel
theorem dL_law_824 : decode cL_law 824 = .ok (.aload_n 1, 1) := by decide +kernel
theorem dL_law_825 : decode cL_law 825 = .ok (.aload_n 0, 1) := by decide +kernel
theorem dL_law_826 : decode cL_law 826 = .ok (.iload 4, 2) := by decide +kernel
theorem dL_law_828 : decode cL_law 828 = .ok (.iconst 1, 1) := by decide +kernel
theorem dL_law_829 : decode cL_law 829 = .ok (.iadd, 1) := by decide +kernel
theorem dL_law_830 : decode cL_law 830 = .ok (.iaload, 1) := by decide +kernel
theorem dL_law_831 : decode cL_law 831 = .ok (.aload_n 0, 1) := by decide +kernel
theorem dL_law_832 : decode cL_law 832 = .ok (.iload 4, 2) := by decide +kernel
theorem dL_law_834 : decode cL_law 834 = .ok (.iconst 2, 1) := by decide +kernel
theorem dL_law_835 : decode cL_law 835 = .ok (.iadd, 1) := by decide +kernel
theorem dL_law_836 : decode cL_law 836 = .ok (.iaload, 1) := by decide +kernel
theorem dL_law_837 : decode cL_law 837 = .ok (.aload_n 3, 1) := by decide +kernel
theorem dL_law_838 : decode cL_law 838 = .ok (.invokestatic 131, 3) := by decide +kernel
theorem dL_law_841 : decode cL_law 841 = .ok (.istore 5, 2) := by decide +kernel
theorem dL_law_843 : decode cL_law 843 = .ok (.aload_n 2, 1) := by decide +kernel
theorem dL_law_844 : decode cL_law 844 = .ok (.aload_n 0, 1) := by decide +kernel
theorem dL_law_845 : decode cL_law 845 = .ok (.iload 4, 2) := by decide +kernel
theorem dL_law_847 : decode cL_law 847 = .ok (.iconst 1, 1) := by decide +kernel
theorem dL_law_848 : decode cL_law 848 = .ok (.iadd, 1) := by decide +kernel
theorem dL_law_849 : decode cL_law 849 = .ok (.iaload, 1) := by decide +kernel
theorem dL_law_850 : decode cL_law 850 = .ok (.aload_n 0, 1) := by decide +kernel
theorem dL_law_851 : decode cL_law 851 = .ok (.iload 4, 2) := by decide +kernel
theorem dL_law_853 : decode cL_law 853 = .ok (.iconst 2, 1) := by decide +kernel
theorem dL_law_854 : decode cL_law 854 = .ok (.iadd, 1) := by decide +kernel
theorem dL_law_855 : decode cL_law 855 = .ok (.iaload, 1) := by decide +kernel
theorem dL_law_856 : decode cL_law 856 = .ok (.invokevirtual 133, 3) := by decide +kernel
theorem dL_law_859 : decode cL_law 859 = .ok (.istore 6, 2) := by decide +kernel
theorem dL_law_861 : decode cL_law 861 = .ok (.aload_n 2, 1) := by decide +kernel
theorem dL_law_862 : decode cL_law 862 = .ok (.invokevirtual 95, 3) := by decide +kernel
theorem dL_law_865 : decode cL_law 865 = .ok (.iload 5, 2) := by decide +kernel
theorem dL_law_867 : decode cL_law 867 = .ok (.if_icmp .eq 5, 3) := by decide +kernel
theorem dL_law_870 : decode cL_law 870 = .ok (.iconst 0, 1) := by decide +kernel
theorem dL_law_871 : decode cL_law 871 = .ok (.ireturn, 1) := by decide +kernel
theorem dL_law_872 : decode cL_law 872 = .ok (.iload 5, 2) := by decide +kernel
theorem dL_law_874 : decode cL_law 874 = .ok (.ifCond .ne 15, 3) := by decide +kernel
theorem dL_law_877 : decode cL_law 877 = .ok (.aload_n 3, 1) := by decide +kernel
theorem dL_law_878 : decode cL_law 878 = .ok (.iconst 0, 1) := by decide +kernel
theorem dL_law_879 : decode cL_law 879 = .ok (.laload, 1) := by decide +kernel
theorem dL_law_880 : decode cL_law 880 = .ok (.iload 6, 2) := by decide +kernel
theorem dL_law_882 : decode cL_law 882 = .ok (.i2l, 1) := by decide +kernel
theorem dL_law_883 : decode cL_law 883 = .ok (.lcmp, 1) := by decide +kernel
theorem dL_law_884 : decode cL_law 884 = .ok (.ifCond .eq 5, 3) := by decide +kernel
theorem dL_law_887 : decode cL_law 887 = .ok (.iconst 0, 1) := by decide +kernel
theorem dL_law_888 : decode cL_law 888 = .ok (.ireturn, 1) := by decide +kernel
theorem dL_law_889 : decode cL_law 889 = .ok (.goto 656, 3) := by decide +kernel
theorem dL_law_892 : decode cL_law 892 = .ok (.aload_n 1, 1) := by decide +kernel
theorem dL_law_893 : decode cL_law 893 = .ok (.aload_n 0, 1) := by decide +kernel
theorem dL_law_894 : decode cL_law 894 = .ok (.iload 4, 2) := by decide +kernel
theorem dL_law_896 : decode cL_law 896 = .ok (.iconst 1, 1) := by decide +kernel
theorem dL_law_897 : decode cL_law 897 = .ok (.iadd, 1) := by decide +kernel
theorem dL_law_898 : decode cL_law 898 = .ok (.iaload, 1) := by decide +kernel
theorem dL_law_899 : decode cL_law 899 = .ok (.aload_n 3, 1) := by decide +kernel
theorem dL_law_900 : decode cL_law 900 = .ok (.invokestatic 134, 3) := by decide +kernel
theorem dL_law_903 : decode cL_law 903 = .ok (.istore 5, 2) := by decide +kernel
theorem dL_law_905 : decode cL_law 905 = .ok (.aload_n 2, 1) := by decide +kernel
theorem dL_law_906 : decode cL_law 906 = .ok (.aload_n 0, 1) := by decide +kernel
theorem dL_law_907 : decode cL_law 907 = .ok (.iload 4, 2) := by decide +kernel
theorem dL_law_909 : decode cL_law 909 = .ok (.iconst 1, 1) := by decide +kernel
theorem dL_law_910 : decode cL_law 910 = .ok (.iadd, 1) := by decide +kernel
theorem dL_law_911 : decode cL_law 911 = .ok (.iaload, 1) := by decide +kernel
theorem dL_law_912 : decode cL_law 912 = .ok (.invokevirtual 136, 3) := by decide +kernel
theorem dL_law_915 : decode cL_law 915 = .ok (.istore 6, 2) := by decide +kernel
theorem dL_law_917 : decode cL_law 917 = .ok (.aload_n 2, 1) := by decide +kernel
theorem dL_law_918 : decode cL_law 918 = .ok (.invokevirtual 95, 3) := by decide +kernel
theorem dL_law_921 : decode cL_law 921 = .ok (.iload 5, 2) := by decide +kernel
theorem dL_law_923 : decode cL_law 923 = .ok (.if_icmp .eq 5, 3) := by decide +kernel
theorem dL_law_926 : decode cL_law 926 = .ok (.iconst 0, 1) := by decide +kernel
theorem dL_law_927 : decode cL_law 927 = .ok (.ireturn, 1) := by decide +kernel
theorem dL_law_928 : decode cL_law 928 = .ok (.iload 5, 2) := by decide +kernel
theorem dL_law_930 : decode cL_law 930 = .ok (.ifCond .ne 15, 3) := by decide +kernel
theorem dL_law_933 : decode cL_law 933 = .ok (.aload_n 3, 1) := by decide +kernel
theorem dL_law_934 : decode cL_law 934 = .ok (.iconst 0, 1) := by decide +kernel
theorem dL_law_935 : decode cL_law 935 = .ok (.laload, 1) := by decide +kernel
theorem dL_law_936 : decode cL_law 936 = .ok (.iload 6, 2) := by decide +kernel
theorem dL_law_938 : decode cL_law 938 = .ok (.i2l, 1) := by decide +kernel
theorem dL_law_939 : decode cL_law 939 = .ok (.lcmp, 1) := by decide +kernel
theorem dL_law_940 : decode cL_law 940 = .ok (.ifCond .eq 5, 3) := by decide +kernel
theorem dL_law_943 : decode cL_law 943 = .ok (.iconst 0, 1) := by decide +kernel
theorem dL_law_944 : decode cL_law 944 = .ok (.ireturn, 1) := by decide +kernel
theorem dL_law_945 : decode cL_law 945 = .ok (.goto 600, 3) := by decide +kernel
theorem dL_law_948 : decode cL_law 948 = .ok (.aload_n 1, 1) := by decide +kernel
theorem dL_law_949 : decode cL_law 949 = .ok (.aload_n 0, 1) := by decide +kernel
theorem dL_law_950 : decode cL_law 950 = .ok (.iload 4, 2) := by decide +kernel
theorem dL_law_952 : decode cL_law 952 = .ok (.iconst 1, 1) := by decide +kernel
theorem dL_law_953 : decode cL_law 953 = .ok (.iadd, 1) := by decide +kernel
theorem dL_law_954 : decode cL_law 954 = .ok (.iaload, 1) := by decide +kernel
theorem dL_law_955 : decode cL_law 955 = .ok (.aload_n 3, 1) := by decide +kernel
theorem dL_law_956 : decode cL_law 956 = .ok (.invokestatic 137, 3) := by decide +kernel
theorem dL_law_959 : decode cL_law 959 = .ok (.istore 5, 2) := by decide +kernel
theorem dL_law_961 : decode cL_law 961 = .ok (.aload_n 2, 1) := by decide +kernel
theorem dL_law_962 : decode cL_law 962 = .ok (.aload_n 0, 1) := by decide +kernel
theorem dL_law_963 : decode cL_law 963 = .ok (.iload 4, 2) := by decide +kernel
theorem dL_law_965 : decode cL_law 965 = .ok (.iconst 1, 1) := by decide +kernel
theorem dL_law_966 : decode cL_law 966 = .ok (.iadd, 1) := by decide +kernel
theorem dL_law_967 : decode cL_law 967 = .ok (.iaload, 1) := by decide +kernel
theorem dL_law_968 : decode cL_law 968 = .ok (.invokevirtual 139, 3) := by decide +kernel
theorem dL_law_971 : decode cL_law 971 = .ok (.istore 6, 2) := by decide +kernel
theorem dL_law_973 : decode cL_law 973 = .ok (.aload_n 2, 1) := by decide +kernel
theorem dL_law_974 : decode cL_law 974 = .ok (.invokevirtual 95, 3) := by decide +kernel
theorem dL_law_977 : decode cL_law 977 = .ok (.iload 5, 2) := by decide +kernel
theorem dL_law_979 : decode cL_law 979 = .ok (.if_icmp .eq 5, 3) := by decide +kernel
theorem dL_law_982 : decode cL_law 982 = .ok (.iconst 0, 1) := by decide +kernel
theorem dL_law_983 : decode cL_law 983 = .ok (.ireturn, 1) := by decide +kernel
theorem dL_law_984 : decode cL_law 984 = .ok (.iload 5, 2) := by decide +kernel
theorem dL_law_986 : decode cL_law 986 = .ok (.ifCond .ne 15, 3) := by decide +kernel
theorem dL_law_989 : decode cL_law 989 = .ok (.aload_n 3, 1) := by decide +kernel
theorem dL_law_990 : decode cL_law 990 = .ok (.iconst 0, 1) := by decide +kernel
theorem dL_law_991 : decode cL_law 991 = .ok (.laload, 1) := by decide +kernel
theorem dL_law_992 : decode cL_law 992 = .ok (.iload 6, 2) := by decide +kernel
theorem dL_law_994 : decode cL_law 994 = .ok (.i2l, 1) := by decide +kernel
theorem dL_law_995 : decode cL_law 995 = .ok (.lcmp, 1) := by decide +kernel
theorem dL_law_996 : decode cL_law 996 = .ok (.ifCond .eq 5, 3) := by decide +kernel
theorem dL_law_999 : decode cL_law 999 = .ok (.iconst 0, 1) := by decide +kernel
theorem dL_law_1000 : decode cL_law 1000 = .ok (.ireturn, 1) := by decide +kernel
theorem dL_law_1001 : decode cL_law 1001 = .ok (.goto 544, 3) := by decide +kernel
theorem dL_law_1004 : decode cL_law 1004 = .ok (.aload_n 1, 1) := by decide +kernel
theorem dL_law_1005 : decode cL_law 1005 = .ok (.aload_n 0, 1) := by decide +kernel
theorem dL_law_1006 : decode cL_law 1006 = .ok (.iload 4, 2) := by decide +kernel
theorem dL_law_1008 : decode cL_law 1008 = .ok (.iconst 1, 1) := by decide +kernel
theorem dL_law_1009 : decode cL_law 1009 = .ok (.iadd, 1) := by decide +kernel
theorem dL_law_1010 : decode cL_law 1010 = .ok (.iaload, 1) := by decide +kernel
theorem dL_law_1011 : decode cL_law 1011 = .ok (.aload_n 3, 1) := by decide +kernel
theorem dL_law_1012 : decode cL_law 1012 = .ok (.invokestatic 140, 3) := by decide +kernel
theorem dL_law_1015 : decode cL_law 1015 = .ok (.istore 5, 2) := by decide +kernel
theorem dL_law_1017 : decode cL_law 1017 = .ok (.aload_n 2, 1) := by decide +kernel
theorem dL_law_1018 : decode cL_law 1018 = .ok (.aload_n 0, 1) := by decide +kernel
theorem dL_law_1019 : decode cL_law 1019 = .ok (.iload 4, 2) := by decide +kernel
theorem dL_law_1021 : decode cL_law 1021 = .ok (.iconst 1, 1) := by decide +kernel
theorem dL_law_1022 : decode cL_law 1022 = .ok (.iadd, 1) := by decide +kernel
theorem dL_law_1023 : decode cL_law 1023 = .ok (.iaload, 1) := by decide +kernel
theorem dL_law_1024 : decode cL_law 1024 = .ok (.invokevirtual 142, 3) := by decide +kernel
theorem dL_law_1027 : decode cL_law 1027 = .ok (.istore 6, 2) := by decide +kernel
theorem dL_law_1029 : decode cL_law 1029 = .ok (.aload_n 2, 1) := by decide +kernel
theorem dL_law_1030 : decode cL_law 1030 = .ok (.invokevirtual 95, 3) := by decide +kernel
theorem dL_law_1033 : decode cL_law 1033 = .ok (.iload 5, 2) := by decide +kernel
theorem dL_law_1035 : decode cL_law 1035 = .ok (.if_icmp .eq 5, 3) := by decide +kernel
theorem dL_law_1038 : decode cL_law 1038 = .ok (.iconst 0, 1) := by decide +kernel
theorem dL_law_1039 : decode cL_law 1039 = .ok (.ireturn, 1) := by decide +kernel
theorem dL_law_1040 : decode cL_law 1040 = .ok (.iload 5, 2) := by decide +kernel
theorem dL_law_1042 : decode cL_law 1042 = .ok (.ifCond .ne 15, 3) := by decide +kernel
theorem dL_law_1045 : decode cL_law 1045 = .ok (.aload_n 3, 1) := by decide +kernel
theorem dL_law_1046 : decode cL_law 1046 = .ok (.iconst 0, 1) := by decide +kernel
theorem dL_law_1047 : decode cL_law 1047 = .ok (.laload, 1) := by decide +kernel
theorem dL_law_1048 : decode cL_law 1048 = .ok (.iload 6, 2) := by decide +kernel
theorem dL_law_1050 : decode cL_law 1050 = .ok (.i2l, 1) := by decide +kernel
theorem dL_law_1051 : decode cL_law 1051 = .ok (.lcmp, 1) := by decide +kernel
theorem dL_law_1052 : decode cL_law 1052 = .ok (.ifCond .eq 5, 3) := by decide +kernel
theorem dL_law_1055 : decode cL_law 1055 = .ok (.iconst 0, 1) := by decide +kernel
theorem dL_law_1056 : decode cL_law 1056 = .ok (.ireturn, 1) := by decide +kernel
theorem dL_law_1057 : decode cL_law 1057 = .ok (.goto 488, 3) := by decide +kernel
theorem dL_law_1060 : decode cL_law 1060 = .ok (.aload_n 1, 1) := by decide +kernel
theorem dL_law_1061 : decode cL_law 1061 = .ok (.aload_n 0, 1) := by decide +kernel
theorem dL_law_1062 : decode cL_law 1062 = .ok (.iload 4, 2) := by decide +kernel
theorem dL_law_1064 : decode cL_law 1064 = .ok (.iconst 1, 1) := by decide +kernel
theorem dL_law_1065 : decode cL_law 1065 = .ok (.iadd, 1) := by decide +kernel
theorem dL_law_1066 : decode cL_law 1066 = .ok (.iaload, 1) := by decide +kernel
theorem dL_law_1067 : decode cL_law 1067 = .ok (.aload_n 3, 1) := by decide +kernel
theorem dL_law_1068 : decode cL_law 1068 = .ok (.invokestatic 143, 3) := by decide +kernel
theorem dL_law_1071 : decode cL_law 1071 = .ok (.istore 5, 2) := by decide +kernel
theorem dL_law_1073 : decode cL_law 1073 = .ok (.aload_n 2, 1) := by decide +kernel
theorem dL_law_1074 : decode cL_law 1074 = .ok (.aload_n 0, 1) := by decide +kernel
theorem dL_law_1075 : decode cL_law 1075 = .ok (.iload 4, 2) := by decide +kernel
theorem dL_law_1077 : decode cL_law 1077 = .ok (.iconst 1, 1) := by decide +kernel
theorem dL_law_1078 : decode cL_law 1078 = .ok (.iadd, 1) := by decide +kernel
theorem dL_law_1079 : decode cL_law 1079 = .ok (.iaload, 1) := by decide +kernel
theorem dL_law_1080 : decode cL_law 1080 = .ok (.invokevirtual 145, 3) := by decide +kernel
theorem dL_law_1083 : decode cL_law 1083 = .ok (.istore 6, 2) := by decide +kernel
theorem dL_law_1085 : decode cL_law 1085 = .ok (.aload_n 2, 1) := by decide +kernel
theorem dL_law_1086 : decode cL_law 1086 = .ok (.invokevirtual 95, 3) := by decide +kernel
theorem dL_law_1089 : decode cL_law 1089 = .ok (.iload 5, 2) := by decide +kernel
theorem dL_law_1091 : decode cL_law 1091 = .ok (.if_icmp .eq 5, 3) := by decide +kernel
theorem dL_law_1094 : decode cL_law 1094 = .ok (.iconst 0, 1) := by decide +kernel
theorem dL_law_1095 : decode cL_law 1095 = .ok (.ireturn, 1) := by decide +kernel
theorem dL_law_1096 : decode cL_law 1096 = .ok (.iload 5, 2) := by decide +kernel
theorem dL_law_1098 : decode cL_law 1098 = .ok (.ifCond .ne 15, 3) := by decide +kernel
theorem dL_law_1101 : decode cL_law 1101 = .ok (.aload_n 3, 1) := by decide +kernel
theorem dL_law_1102 : decode cL_law 1102 = .ok (.iconst 0, 1) := by decide +kernel
theorem dL_law_1103 : decode cL_law 1103 = .ok (.laload, 1) := by decide +kernel
theorem dL_law_1104 : decode cL_law 1104 = .ok (.iload 6, 2) := by decide +kernel
theorem dL_law_1106 : decode cL_law 1106 = .ok (.i2l, 1) := by decide +kernel
theorem dL_law_1107 : decode cL_law 1107 = .ok (.lcmp, 1) := by decide +kernel
theorem dL_law_1108 : decode cL_law 1108 = .ok (.ifCond .eq 5, 3) := by decide +kernel
theorem dL_law_1111 : decode cL_law 1111 = .ok (.iconst 0, 1) := by decide +kernel
theorem dL_law_1112 : decode cL_law 1112 = .ok (.ireturn, 1) := by decide +kernel
theorem dL_law_1113 : decode cL_law 1113 = .ok (.goto 432, 3) := by decide +kernel
theorem dL_law_1116 : decode cL_law 1116 = .ok (.aload_n 1, 1) := by decide +kernel
theorem dL_law_1117 : decode cL_law 1117 = .ok (.aload_n 0, 1) := by decide +kernel
theorem dL_law_1118 : decode cL_law 1118 = .ok (.iload 4, 2) := by decide +kernel
theorem dL_law_1120 : decode cL_law 1120 = .ok (.iconst 1, 1) := by decide +kernel
theorem dL_law_1121 : decode cL_law 1121 = .ok (.iadd, 1) := by decide +kernel
theorem dL_law_1122 : decode cL_law 1122 = .ok (.iaload, 1) := by decide +kernel
theorem dL_law_1123 : decode cL_law 1123 = .ok (.aload_n 3, 1) := by decide +kernel
theorem dL_law_1124 : decode cL_law 1124 = .ok (.invokestatic 146, 3) := by decide +kernel
theorem dL_law_1127 : decode cL_law 1127 = .ok (.istore 5, 2) := by decide +kernel
theorem dL_law_1129 : decode cL_law 1129 = .ok (.aload_n 2, 1) := by decide +kernel
theorem dL_law_1130 : decode cL_law 1130 = .ok (.aload_n 0, 1) := by decide +kernel
theorem dL_law_1131 : decode cL_law 1131 = .ok (.iload 4, 2) := by decide +kernel
theorem dL_law_1133 : decode cL_law 1133 = .ok (.iconst 1, 1) := by decide +kernel
theorem dL_law_1134 : decode cL_law 1134 = .ok (.iadd, 1) := by decide +kernel
theorem dL_law_1135 : decode cL_law 1135 = .ok (.iaload, 1) := by decide +kernel
theorem dL_law_1136 : decode cL_law 1136 = .ok (.invokevirtual 148, 3) := by decide +kernel
theorem dL_law_1139 : decode cL_law 1139 = .ok (.istore 6, 2) := by decide +kernel
theorem dL_law_1141 : decode cL_law 1141 = .ok (.aload_n 2, 1) := by decide +kernel
theorem dL_law_1142 : decode cL_law 1142 = .ok (.invokevirtual 95, 3) := by decide +kernel
theorem dL_law_1145 : decode cL_law 1145 = .ok (.iload 5, 2) := by decide +kernel
theorem dL_law_1147 : decode cL_law 1147 = .ok (.if_icmp .eq 5, 3) := by decide +kernel
theorem dL_law_1150 : decode cL_law 1150 = .ok (.iconst 0, 1) := by decide +kernel
theorem dL_law_1151 : decode cL_law 1151 = .ok (.ireturn, 1) := by decide +kernel
theorem dL_law_1152 : decode cL_law 1152 = .ok (.iload 5, 2) := by decide +kernel
theorem dL_law_1154 : decode cL_law 1154 = .ok (.ifCond .ne 15, 3) := by decide +kernel
theorem dL_law_1157 : decode cL_law 1157 = .ok (.aload_n 3, 1) := by decide +kernel
theorem dL_law_1158 : decode cL_law 1158 = .ok (.iconst 0, 1) := by decide +kernel
theorem dL_law_1159 : decode cL_law 1159 = .ok (.laload, 1) := by decide +kernel
theorem dL_law_1160 : decode cL_law 1160 = .ok (.iload 6, 2) := by decide +kernel
theorem dL_law_1162 : decode cL_law 1162 = .ok (.i2l, 1) := by decide +kernel
theorem dL_law_1163 : decode cL_law 1163 = .ok (.lcmp, 1) := by decide +kernel
theorem dL_law_1164 : decode cL_law 1164 = .ok (.ifCond .eq 5, 3) := by decide +kernel
theorem dL_law_1167 : decode cL_law 1167 = .ok (.iconst 0, 1) := by decide +kernel
theorem dL_law_1168 : decode cL_law 1168 = .ok (.ireturn, 1) := by decide +kernel
theorem dL_law_1169 : decode cL_law 1169 = .ok (.goto 376, 3) := by decide +kernel
theorem dL_law_1172 : decode cL_law 1172 = .ok (.aload_n 1, 1) := by decide +kernel
theorem dL_law_1173 : decode cL_law 1173 = .ok (.aload_n 0, 1) := by decide +kernel
theorem dL_law_1174 : decode cL_law 1174 = .ok (.iload 4, 2) := by decide +kernel
theorem dL_law_1176 : decode cL_law 1176 = .ok (.iconst 1, 1) := by decide +kernel
theorem dL_law_1177 : decode cL_law 1177 = .ok (.iadd, 1) := by decide +kernel
theorem dL_law_1178 : decode cL_law 1178 = .ok (.iaload, 1) := by decide +kernel
theorem dL_law_1179 : decode cL_law 1179 = .ok (.aload_n 3, 1) := by decide +kernel
theorem dL_law_1180 : decode cL_law 1180 = .ok (.invokestatic 149, 3) := by decide +kernel
theorem dL_law_1183 : decode cL_law 1183 = .ok (.istore 5, 2) := by decide +kernel
theorem dL_law_1185 : decode cL_law 1185 = .ok (.aload_n 2, 1) := by decide +kernel
theorem dL_law_1186 : decode cL_law 1186 = .ok (.aload_n 0, 1) := by decide +kernel
theorem dL_law_1187 : decode cL_law 1187 = .ok (.iload 4, 2) := by decide +kernel
theorem dL_law_1189 : decode cL_law 1189 = .ok (.iconst 1, 1) := by decide +kernel
theorem dL_law_1190 : decode cL_law 1190 = .ok (.iadd, 1) := by decide +kernel
theorem dL_law_1191 : decode cL_law 1191 = .ok (.iaload, 1) := by decide +kernel
theorem dL_law_1192 : decode cL_law 1192 = .ok (.invokevirtual 151, 3) := by decide +kernel
theorem dL_law_1195 : decode cL_law 1195 = .ok (.istore 6, 2) := by decide +kernel
theorem dL_law_1197 : decode cL_law 1197 = .ok (.aload_n 2, 1) := by decide +kernel
theorem dL_law_1198 : decode cL_law 1198 = .ok (.invokevirtual 95, 3) := by decide +kernel
theorem dL_law_1201 : decode cL_law 1201 = .ok (.iload 5, 2) := by decide +kernel
theorem dL_law_1203 : decode cL_law 1203 = .ok (.if_icmp .eq 5, 3) := by decide +kernel
theorem dL_law_1206 : decode cL_law 1206 = .ok (.iconst 0, 1) := by decide +kernel
theorem dL_law_1207 : decode cL_law 1207 = .ok (.ireturn, 1) := by decide +kernel
theorem dL_law_1208 : decode cL_law 1208 = .ok (.iload 5, 2) := by decide +kernel
theorem dL_law_1210 : decode cL_law 1210 = .ok (.ifCond .ne 15, 3) := by decide +kernel
theorem dL_law_1213 : decode cL_law 1213 = .ok (.aload_n 3, 1) := by decide +kernel
theorem dL_law_1214 : decode cL_law 1214 = .ok (.iconst 0, 1) := by decide +kernel
theorem dL_law_1215 : decode cL_law 1215 = .ok (.laload, 1) := by decide +kernel
theorem dL_law_1216 : decode cL_law 1216 = .ok (.iload 6, 2) := by decide +kernel
theorem dL_law_1218 : decode cL_law 1218 = .ok (.i2l, 1) := by decide +kernel
theorem dL_law_1219 : decode cL_law 1219 = .ok (.lcmp, 1) := by decide +kernel
theorem dL_law_1220 : decode cL_law 1220 = .ok (.ifCond .eq 5, 3) := by decide +kernel
theorem dL_law_1223 : decode cL_law 1223 = .ok (.iconst 0, 1) := by decide +kernel
theorem dL_law_1224 : decode cL_law 1224 = .ok (.ireturn, 1) := by decide +kernel
theorem dL_law_1225 : decode cL_law 1225 = .ok (.goto 320, 3) := by decide +kernel
theorem dL_law_1228 : decode cL_law 1228 = .ok (.aload_n 1, 1) := by decide +kernel
theorem dL_law_1229 : decode cL_law 1229 = .ok (.invokevirtual 152, 3) := by decide +kernel
theorem dL_law_1232 : decode cL_law 1232 = .ok (.dstore 5, 2) := by decide +kernel
theorem dL_law_1234 : decode cL_law 1234 = .ok (.aload_n 2, 1) := by decide +kernel
theorem dL_law_1235 : decode cL_law 1235 = .ok (.invokevirtual 156, 3) := by decide +kernel
theorem dL_law_1238 : decode cL_law 1238 = .ok (.dstore 7, 2) := by decide +kernel
theorem dL_law_1240 : decode cL_law 1240 = .ok (.dload 5, 2) := by decide +kernel
theorem dL_law_1242 : decode cL_law 1242 = .ok (.dload 7, 2) := by decide +kernel
theorem dL_law_1244 : decode cL_law 1244 = .ok (.dcmp .l, 1) := by decide +kernel
theorem dL_law_1245 : decode cL_law 1245 = .ok (.ifCond .eq 21, 3) := by decide +kernel
theorem dL_law_1248 : decode cL_law 1248 = .ok (.dload 5, 2) := by decide +kernel
theorem dL_law_1250 : decode cL_law 1250 = .ok (.dload 5, 2) := by decide +kernel
theorem dL_law_1252 : decode cL_law 1252 = .ok (.dcmp .l, 1) := by decide +kernel
theorem dL_law_1253 : decode cL_law 1253 = .ok (.ifCond .eq 11, 3) := by decide +kernel
theorem dL_law_1256 : decode cL_law 1256 = .ok (.dload 7, 2) := by decide +kernel
theorem dL_law_1258 : decode cL_law 1258 = .ok (.dload 7, 2) := by decide +kernel
theorem dL_law_1260 : decode cL_law 1260 = .ok (.dcmp .l, 1) := by decide +kernel
theorem dL_law_1261 : decode cL_law 1261 = .ok (.ifCond .ne 5, 3) := by decide +kernel
theorem dL_law_1264 : decode cL_law 1264 = .ok (.iconst 0, 1) := by decide +kernel
theorem dL_law_1265 : decode cL_law 1265 = .ok (.ireturn, 1) := by decide +kernel
theorem dL_law_1266 : decode cL_law 1266 = .ok (.goto 279, 3) := by decide +kernel
theorem dL_law_1269 : decode cL_law 1269 = .ok (.aload_n 1, 1) := by decide +kernel
theorem dL_law_1270 : decode cL_law 1270 = .ok (.aload_n 0, 1) := by decide +kernel
theorem dL_law_1271 : decode cL_law 1271 = .ok (.iload 4, 2) := by decide +kernel
theorem dL_law_1273 : decode cL_law 1273 = .ok (.iconst 1, 1) := by decide +kernel
theorem dL_law_1274 : decode cL_law 1274 = .ok (.iadd, 1) := by decide +kernel
theorem dL_law_1275 : decode cL_law 1275 = .ok (.iaload, 1) := by decide +kernel
theorem dL_law_1276 : decode cL_law 1276 = .ok (.aload_n 3, 1) := by decide +kernel
theorem dL_law_1277 : decode cL_law 1277 = .ok (.invokestatic 157, 3) := by decide +kernel
theorem dL_law_1280 : decode cL_law 1280 = .ok (.istore 5, 2) := by decide +kernel
theorem dL_law_1282 : decode cL_law 1282 = .ok (.aload_n 2, 1) := by decide +kernel
theorem dL_law_1283 : decode cL_law 1283 = .ok (.aload_n 0, 1) := by decide +kernel
theorem dL_law_1284 : decode cL_law 1284 = .ok (.iload 4, 2) := by decide +kernel
theorem dL_law_1286 : decode cL_law 1286 = .ok (.iconst 1, 1) := by decide +kernel
theorem dL_law_1287 : decode cL_law 1287 = .ok (.iadd, 1) := by decide +kernel
theorem dL_law_1288 : decode cL_law 1288 = .ok (.iaload, 1) := by decide +kernel
theorem dL_law_1289 : decode cL_law 1289 = .ok (.invokevirtual 159, 3) := by decide +kernel
theorem dL_law_1292 : decode cL_law 1292 = .ok (.istore 6, 2) := by decide +kernel
theorem dL_law_1294 : decode cL_law 1294 = .ok (.aload_n 2, 1) := by decide +kernel
theorem dL_law_1295 : decode cL_law 1295 = .ok (.invokevirtual 95, 3) := by decide +kernel
theorem dL_law_1298 : decode cL_law 1298 = .ok (.iload 5, 2) := by decide +kernel
theorem dL_law_1300 : decode cL_law 1300 = .ok (.if_icmp .eq 5, 3) := by decide +kernel
theorem dL_law_1303 : decode cL_law 1303 = .ok (.iconst 0, 1) := by decide +kernel
theorem dL_law_1304 : decode cL_law 1304 = .ok (.ireturn, 1) := by decide +kernel
theorem dL_law_1305 : decode cL_law 1305 = .ok (.iload 5, 2) := by decide +kernel
theorem dL_law_1307 : decode cL_law 1307 = .ok (.ifCond .ne 15, 3) := by decide +kernel
theorem dL_law_1310 : decode cL_law 1310 = .ok (.aload_n 3, 1) := by decide +kernel
theorem dL_law_1311 : decode cL_law 1311 = .ok (.iconst 0, 1) := by decide +kernel
theorem dL_law_1312 : decode cL_law 1312 = .ok (.laload, 1) := by decide +kernel
theorem dL_law_1313 : decode cL_law 1313 = .ok (.iload 6, 2) := by decide +kernel
theorem dL_law_1315 : decode cL_law 1315 = .ok (.i2l, 1) := by decide +kernel
theorem dL_law_1316 : decode cL_law 1316 = .ok (.lcmp, 1) := by decide +kernel
theorem dL_law_1317 : decode cL_law 1317 = .ok (.ifCond .eq 5, 3) := by decide +kernel
theorem dL_law_1320 : decode cL_law 1320 = .ok (.iconst 0, 1) := by decide +kernel
theorem dL_law_1321 : decode cL_law 1321 = .ok (.ireturn, 1) := by decide +kernel
theorem dL_law_1322 : decode cL_law 1322 = .ok (.goto 223, 3) := by decide +kernel
theorem dL_law_1325 : decode cL_law 1325 = .ok (.aload_n 1, 1) := by decide +kernel
theorem dL_law_1326 : decode cL_law 1326 = .ok (.invokevirtual 160, 3) := by decide +kernel
theorem dL_law_1329 : decode cL_law 1329 = .ok (.aload_n 2, 1) := by decide +kernel
theorem dL_law_1330 : decode cL_law 1330 = .ok (.invokevirtual 163, 3) := by decide +kernel
theorem dL_law_1333 : decode cL_law 1333 = .ok (.if_icmp .eq 212, 3) := by decide +kernel
theorem dL_law_1336 : decode cL_law 1336 = .ok (.iconst 0, 1) := by decide +kernel
theorem dL_law_1337 : decode cL_law 1337 = .ok (.ireturn, 1) := by decide +kernel
theorem dL_law_1338 : decode cL_law 1338 = .ok (.aload_n 1, 1) := by decide +kernel
theorem dL_law_1339 : decode cL_law 1339 = .ok (.invokevirtual 164, 3) := by decide +kernel
theorem dL_law_1342 : decode cL_law 1342 = .ok (.aload_n 2, 1) := by decide +kernel
theorem dL_law_1343 : decode cL_law 1343 = .ok (.invokevirtual 167, 3) := by decide +kernel
theorem dL_law_1346 : decode cL_law 1346 = .ok (.if_icmp .eq 199, 3) := by decide +kernel
theorem dL_law_1349 : decode cL_law 1349 = .ok (.iconst 0, 1) := by decide +kernel
theorem dL_law_1350 : decode cL_law 1350 = .ok (.ireturn, 1) := by decide +kernel
theorem dL_law_1351 : decode cL_law 1351 = .ok (.aload_n 1, 1) := by decide +kernel
theorem dL_law_1352 : decode cL_law 1352 = .ok (.aload_n 0, 1) := by decide +kernel
theorem dL_law_1353 : decode cL_law 1353 = .ok (.iload 4, 2) := by decide +kernel
theorem dL_law_1355 : decode cL_law 1355 = .ok (.iconst 1, 1) := by decide +kernel
theorem dL_law_1356 : decode cL_law 1356 = .ok (.iadd, 1) := by decide +kernel
theorem dL_law_1357 : decode cL_law 1357 = .ok (.iaload, 1) := by decide +kernel
theorem dL_law_1358 : decode cL_law 1358 = .ok (.aload_n 0, 1) := by decide +kernel
theorem dL_law_1359 : decode cL_law 1359 = .ok (.iload 4, 2) := by decide +kernel
theorem dL_law_1361 : decode cL_law 1361 = .ok (.iconst 2, 1) := by decide +kernel
theorem dL_law_1362 : decode cL_law 1362 = .ok (.iadd, 1) := by decide +kernel
theorem dL_law_1363 : decode cL_law 1363 = .ok (.iaload, 1) := by decide +kernel
theorem dL_law_1364 : decode cL_law 1364 = .ok (.aload_n 3, 1) := by decide +kernel
theorem dL_law_1365 : decode cL_law 1365 = .ok (.invokestatic 168, 3) := by decide +kernel
theorem dL_law_1368 : decode cL_law 1368 = .ok (.istore 5, 2) := by decide +kernel
theorem dL_law_1370 : decode cL_law 1370 = .ok (.aload_n 2, 1) := by decide +kernel
theorem dL_law_1371 : decode cL_law 1371 = .ok (.aload_n 0, 1) := by decide +kernel
theorem dL_law_1372 : decode cL_law 1372 = .ok (.iload 4, 2) := by decide +kernel
theorem dL_law_1374 : decode cL_law 1374 = .ok (.iconst 1, 1) := by decide +kernel
theorem dL_law_1375 : decode cL_law 1375 = .ok (.iadd, 1) := by decide +kernel
theorem dL_law_1376 : decode cL_law 1376 = .ok (.iaload, 1) := by decide +kernel
theorem dL_law_1377 : decode cL_law 1377 = .ok (.aload_n 0, 1) := by decide +kernel
theorem dL_law_1378 : decode cL_law 1378 = .ok (.iload 4, 2) := by decide +kernel
theorem dL_law_1380 : decode cL_law 1380 = .ok (.iconst 2, 1) := by decide +kernel
theorem dL_law_1381 : decode cL_law 1381 = .ok (.iadd, 1) := by decide +kernel
theorem dL_law_1382 : decode cL_law 1382 = .ok (.iaload, 1) := by decide +kernel
theorem dL_law_1383 : decode cL_law 1383 = .ok (.invokevirtual 170, 3) := by decide +kernel
theorem dL_law_1386 : decode cL_law 1386 = .ok (.istore 6, 2) := by decide +kernel
theorem dL_law_1388 : decode cL_law 1388 = .ok (.aload_n 2, 1) := by decide +kernel
theorem dL_law_1389 : decode cL_law 1389 = .ok (.invokevirtual 95, 3) := by decide +kernel
theorem dL_law_1392 : decode cL_law 1392 = .ok (.iload 5, 2) := by decide +kernel
theorem dL_law_1394 : decode cL_law 1394 = .ok (.if_icmp .eq 5, 3) := by decide +kernel
theorem dL_law_1397 : decode cL_law 1397 = .ok (.iconst 0, 1) := by decide +kernel
theorem dL_law_1398 : decode cL_law 1398 = .ok (.ireturn, 1) := by decide +kernel
theorem dL_law_1399 : decode cL_law 1399 = .ok (.iload 5, 2) := by decide +kernel
theorem dL_law_1401 : decode cL_law 1401 = .ok (.ifCond .ne 15, 3) := by decide +kernel
theorem dL_law_1404 : decode cL_law 1404 = .ok (.aload_n 3, 1) := by decide +kernel
theorem dL_law_1405 : decode cL_law 1405 = .ok (.iconst 0, 1) := by decide +kernel
theorem dL_law_1406 : decode cL_law 1406 = .ok (.laload, 1) := by decide +kernel
theorem dL_law_1407 : decode cL_law 1407 = .ok (.iload 6, 2) := by decide +kernel
theorem dL_law_1409 : decode cL_law 1409 = .ok (.i2l, 1) := by decide +kernel
theorem dL_law_1410 : decode cL_law 1410 = .ok (.lcmp, 1) := by decide +kernel
theorem dL_law_1411 : decode cL_law 1411 = .ok (.ifCond .eq 5, 3) := by decide +kernel
theorem dL_law_1414 : decode cL_law 1414 = .ok (.iconst 0, 1) := by decide +kernel
theorem dL_law_1415 : decode cL_law 1415 = .ok (.ireturn, 1) := by decide +kernel
theorem dL_law_1416 : decode cL_law 1416 = .ok (.goto 129, 3) := by decide +kernel
theorem dL_law_1419 : decode cL_law 1419 = .ok (.aload_n 1, 1) := by decide +kernel
theorem dL_law_1420 : decode cL_law 1420 = .ok (.aload_n 0, 1) := by decide +kernel
theorem dL_law_1421 : decode cL_law 1421 = .ok (.iload 4, 2) := by decide +kernel
theorem dL_law_1423 : decode cL_law 1423 = .ok (.iconst 1, 1) := by decide +kernel
theorem dL_law_1424 : decode cL_law 1424 = .ok (.iadd, 1) := by decide +kernel
theorem dL_law_1425 : decode cL_law 1425 = .ok (.iaload, 1) := by decide +kernel
theorem dL_law_1426 : decode cL_law 1426 = .ok (.aload_n 3, 1) := by decide +kernel
theorem dL_law_1427 : decode cL_law 1427 = .ok (.invokestatic 171, 3) := by decide +kernel
theorem dL_law_1430 : decode cL_law 1430 = .ok (.istore 5, 2) := by decide +kernel
theorem dL_law_1432 : decode cL_law 1432 = .ok (.aload_n 2, 1) := by decide +kernel
theorem dL_law_1433 : decode cL_law 1433 = .ok (.aload_n 0, 1) := by decide +kernel
theorem dL_law_1434 : decode cL_law 1434 = .ok (.iload 4, 2) := by decide +kernel
theorem dL_law_1436 : decode cL_law 1436 = .ok (.iconst 1, 1) := by decide +kernel
theorem dL_law_1437 : decode cL_law 1437 = .ok (.iadd, 1) := by decide +kernel
theorem dL_law_1438 : decode cL_law 1438 = .ok (.iaload, 1) := by decide +kernel
theorem dL_law_1439 : decode cL_law 1439 = .ok (.invokevirtual 173, 3) := by decide +kernel
theorem dL_law_1442 : decode cL_law 1442 = .ok (.istore 6, 2) := by decide +kernel
theorem dL_law_1444 : decode cL_law 1444 = .ok (.aload_n 2, 1) := by decide +kernel
theorem dL_law_1445 : decode cL_law 1445 = .ok (.invokevirtual 95, 3) := by decide +kernel
theorem dL_law_1448 : decode cL_law 1448 = .ok (.iload 5, 2) := by decide +kernel
theorem dL_law_1450 : decode cL_law 1450 = .ok (.if_icmp .eq 5, 3) := by decide +kernel
theorem dL_law_1453 : decode cL_law 1453 = .ok (.iconst 0, 1) := by decide +kernel
theorem dL_law_1454 : decode cL_law 1454 = .ok (.ireturn, 1) := by decide +kernel
theorem dL_law_1455 : decode cL_law 1455 = .ok (.iload 5, 2) := by decide +kernel
theorem dL_law_1457 : decode cL_law 1457 = .ok (.ifCond .ne 15, 3) := by decide +kernel
theorem dL_law_1460 : decode cL_law 1460 = .ok (.aload_n 3, 1) := by decide +kernel
theorem dL_law_1461 : decode cL_law 1461 = .ok (.iconst 0, 1) := by decide +kernel
theorem dL_law_1462 : decode cL_law 1462 = .ok (.laload, 1) := by decide +kernel
theorem dL_law_1463 : decode cL_law 1463 = .ok (.iload 6, 2) := by decide +kernel
theorem dL_law_1465 : decode cL_law 1465 = .ok (.i2l, 1) := by decide +kernel
theorem dL_law_1466 : decode cL_law 1466 = .ok (.lcmp, 1) := by decide +kernel
theorem dL_law_1467 : decode cL_law 1467 = .ok (.ifCond .eq 5, 3) := by decide +kernel
theorem dL_law_1470 : decode cL_law 1470 = .ok (.iconst 0, 1) := by decide +kernel
theorem dL_law_1471 : decode cL_law 1471 = .ok (.ireturn, 1) := by decide +kernel
theorem dL_law_1472 : decode cL_law 1472 = .ok (.goto 73, 3) := by decide +kernel
theorem dL_law_1475 : decode cL_law 1475 = .ok (.aload_n 1, 1) := by decide +kernel
theorem dL_law_1476 : decode cL_law 1476 = .ok (.invokevirtual 174, 3) := by decide +kernel
theorem dL_law_1479 : decode cL_law 1479 = .ok (.aload_n 2, 1) := by decide +kernel
theorem dL_law_1480 : decode cL_law 1480 = .ok (.invokevirtual 177, 3) := by decide +kernel
theorem dL_law_1483 : decode cL_law 1483 = .ok (.if_icmp .eq 62, 3) := by decide +kernel
theorem dL_law_1486 : decode cL_law 1486 = .ok (.iconst 0, 1) := by decide +kernel
theorem dL_law_1487 : decode cL_law 1487 = .ok (.ireturn, 1) := by decide +kernel
theorem dL_law_1488 : decode cL_law 1488 = .ok (.aload_n 1, 1) := by decide +kernel
theorem dL_law_1489 : decode cL_law 1489 = .ok (.invokevirtual 178, 3) := by decide +kernel
theorem dL_law_1492 : decode cL_law 1492 = .ok (.aload_n 2, 1) := by decide +kernel
theorem dL_law_1493 : decode cL_law 1493 = .ok (.invokevirtual 181, 3) := by decide +kernel
theorem dL_law_1496 : decode cL_law 1496 = .ok (.if_icmp .eq 49, 3) := by decide +kernel
theorem dL_law_1499 : decode cL_law 1499 = .ok (.iconst 0, 1) := by decide +kernel
theorem dL_law_1500 : decode cL_law 1500 = .ok (.ireturn, 1) := by decide +kernel
theorem dL_law_1501 : decode cL_law 1501 = .ok (.aload_n 1, 1) := by decide +kernel
theorem dL_law_1502 : decode cL_law 1502 = .ok (.aload_n 3, 1) := by decide +kernel
theorem dL_law_1503 : decode cL_law 1503 = .ok (.invokestatic 182, 3) := by decide +kernel
theorem dL_law_1506 : decode cL_law 1506 = .ok (.istore 5, 2) := by decide +kernel
theorem dL_law_1508 : decode cL_law 1508 = .ok (.aload_n 2, 1) := by decide +kernel
theorem dL_law_1509 : decode cL_law 1509 = .ok (.invokevirtual 184, 3) := by decide +kernel
theorem dL_law_1512 : decode cL_law 1512 = .ok (.istore 6, 2) := by decide +kernel
theorem dL_law_1514 : decode cL_law 1514 = .ok (.aload_n 2, 1) := by decide +kernel
theorem dL_law_1515 : decode cL_law 1515 = .ok (.invokevirtual 95, 3) := by decide +kernel
theorem dL_law_1518 : decode cL_law 1518 = .ok (.iload 5, 2) := by decide +kernel
theorem dL_law_1520 : decode cL_law 1520 = .ok (.if_icmp .eq 5, 3) := by decide +kernel
theorem dL_law_1523 : decode cL_law 1523 = .ok (.iconst 0, 1) := by decide +kernel
theorem dL_law_1524 : decode cL_law 1524 = .ok (.ireturn, 1) := by decide +kernel
theorem dL_law_1525 : decode cL_law 1525 = .ok (.iload 5, 2) := by decide +kernel
theorem dL_law_1527 : decode cL_law 1527 = .ok (.ifCond .ne 15, 3) := by decide +kernel
theorem dL_law_1530 : decode cL_law 1530 = .ok (.aload_n 3, 1) := by decide +kernel
theorem dL_law_1531 : decode cL_law 1531 = .ok (.iconst 0, 1) := by decide +kernel
theorem dL_law_1532 : decode cL_law 1532 = .ok (.laload, 1) := by decide +kernel
theorem dL_law_1533 : decode cL_law 1533 = .ok (.iload 6, 2) := by decide +kernel
theorem dL_law_1535 : decode cL_law 1535 = .ok (.i2l, 1) := by decide +kernel
theorem dL_law_1536 : decode cL_law 1536 = .ok (.lcmp, 1) := by decide +kernel
theorem dL_law_1537 : decode cL_law 1537 = .ok (.ifCond .eq 5, 3) := by decide +kernel
theorem dL_law_1540 : decode cL_law 1540 = .ok (.iconst 0, 1) := by decide +kernel
theorem dL_law_1541 : decode cL_law 1541 = .ok (.ireturn, 1) := by decide +kernel
theorem dL_law_1542 : decode cL_law 1542 = .ok (.goto 3, 3) := by decide +kernel
theorem dL_law_1545 : decode cL_law 1545 = .ok (.iinc 4 4, 3) := by decide +kernel
theorem dL_law_1548 : decode cL_law 1548 = .ok (.goto (-1525), 3) := by decide +kernel
theorem dL_law_1551 : decode cL_law 1551 = .ok (.iconst 1, 1) := by decide +kernel
theorem dL_law_1552 : decode cL_law 1552 = .ok (.ireturn, 1) := by decide +kernel
