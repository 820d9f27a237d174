theorem dX0_init_0 : decode cX0_init 0 = .ok (.aload_n 0, 1) := by decide +kernel
theorem dX0_init_1 : decode cX0_init 1 = .ok (.invokespecial 3, 3) := by decide +kernel
theorem dX0_init_4 : decode cX0_init 4 = .ok (.aload_n 0, 1) := by decide +kernel
theorem dX0_init_5 : decode cX0_init 5 = .ok (.sipush 3180, 3) := by decide +kernel
theorem dX0_init_8 : decode cX0_init 8 = .ok (.newarray .char, 2) := by decide +kernel
theorem dX0_init_10 : decode cX0_init 10 = .ok (.putfield 9, 3) := by decide +kernel
theorem dX0_init_13 : decode cX0_init 13 = .ok (.aload_n 0, 1) := by decide +kernel
theorem dX0_init_14 : decode cX0_init 14 = .ok (.bipush 60, 2) := by decide +kernel
theorem dX0_init_16 : decode cX0_init 16 = .ok (.newarray .int, 2) := by decide +kernel
theorem dX0_init_18 : decode cX0_init 18 = .ok (.putfield 15, 3) := by decide +kernel
theorem dX0_init_21 : decode cX0_init 21 = .ok (.return_, 1) := by decide +kernel
theorem dX0_clear_0 : decode cX0_clear 0 = .ok (.aload_n 0, 1) := by decide +kernel
theorem dX0_clear_1 : decode cX0_clear 1 = .ok (.iconst 0, 1) := by decide +kernel
theorem dX0_clear_2 : decode cX0_clear 2 = .ok (.putfield 19, 3) := by decide +kernel
theorem dX0_clear_5 : decode cX0_clear 5 = .ok (.aload_n 0, 1) := by decide +kernel
theorem dX0_clear_6 : decode cX0_clear 6 = .ok (.iconst 0, 1) := by decide +kernel
theorem dX0_clear_7 : decode cX0_clear 7 = .ok (.putfield 23, 3) := by decide +kernel
theorem dX0_clear_10 : decode cX0_clear 10 = .ok (.return_, 1) := by decide +kernel
theorem dX0_add_0 : decode cX0_add 0 = .ok (.aload_n 0, 1) := by decide +kernel
theorem dX0_add_1 : decode cX0_add 1 = .ok (.getfield 19, 3) := by decide +kernel
theorem dX0_add_4 : decode cX0_add 4 = .ok (.bipush 60, 2) := by decide +kernel
theorem dX0_add_6 : decode cX0_add 6 = .ok (.if_icmp .ge 12, 3) := by decide +kernel
theorem dX0_add_9 : decode cX0_add 9 = .ok (.aload_n 1, 1) := by decide +kernel
theorem dX0_add_10 : decode cX0_add 10 = .ok (.invokevirtual 26, 3) := by decide +kernel
theorem dX0_add_13 : decode cX0_add 13 = .ok (.bipush 53, 2) := by decide +kernel
theorem dX0_add_15 : decode cX0_add 15 = .ok (.if_icmp .le 4, 3) := by decide +kernel
theorem dX0_add_18 : decode cX0_add 18 = .ok (.return_, 1) := by decide +kernel
theorem dX0_add_19 : decode cX0_add 19 = .ok (.iconst 0, 1) := by decide +kernel
theorem dX0_add_20 : decode cX0_add 20 = .ok (.istore_n 2, 1) := by decide +kernel
theorem dX0_add_21 : decode cX0_add 21 = .ok (.iload_n 2, 1) := by decide +kernel
theorem dX0_add_22 : decode cX0_add 22 = .ok (.aload_n 1, 1) := by decide +kernel
theorem dX0_add_23 : decode cX0_add 23 = .ok (.invokevirtual 26, 3) := by decide +kernel
theorem dX0_add_26 : decode cX0_add 26 = .ok (.if_icmp .ge 28, 3) := by decide +kernel
theorem dX0_add_29 : decode cX0_add 29 = .ok (.aload_n 0, 1) := by decide +kernel
theorem dX0_add_30 : decode cX0_add 30 = .ok (.getfield 9, 3) := by decide +kernel
theorem dX0_add_33 : decode cX0_add 33 = .ok (.aload_n 0, 1) := by decide +kernel
theorem dX0_add_34 : decode cX0_add 34 = .ok (.getfield 19, 3) := by decide +kernel
theorem dX0_add_37 : decode cX0_add 37 = .ok (.bipush 53, 2) := by decide +kernel
theorem dX0_add_39 : decode cX0_add 39 = .ok (.imul, 1) := by decide +kernel
theorem dX0_add_40 : decode cX0_add 40 = .ok (.iload_n 2, 1) := by decide +kernel
theorem dX0_add_41 : decode cX0_add 41 = .ok (.iadd, 1) := by decide +kernel
theorem dX0_add_42 : decode cX0_add 42 = .ok (.aload_n 1, 1) := by decide +kernel
theorem dX0_add_43 : decode cX0_add 43 = .ok (.iload_n 2, 1) := by decide +kernel
theorem dX0_add_44 : decode cX0_add 44 = .ok (.invokevirtual 32, 3) := by decide +kernel
theorem dX0_add_47 : decode cX0_add 47 = .ok (.castore, 1) := by decide +kernel
theorem dX0_add_48 : decode cX0_add 48 = .ok (.iinc 2 1, 3) := by decide +kernel
theorem dX0_add_51 : decode cX0_add 51 = .ok (.goto (-30), 3) := by decide +kernel
theorem dX0_add_54 : decode cX0_add 54 = .ok (.aload_n 0, 1) := by decide +kernel
theorem dX0_add_55 : decode cX0_add 55 = .ok (.getfield 15, 3) := by decide +kernel
theorem dX0_add_58 : decode cX0_add 58 = .ok (.aload_n 0, 1) := by decide +kernel
theorem dX0_add_59 : decode cX0_add 59 = .ok (.getfield 19, 3) := by decide +kernel
theorem dX0_add_62 : decode cX0_add 62 = .ok (.aload_n 1, 1) := by decide +kernel
theorem dX0_add_63 : decode cX0_add 63 = .ok (.invokevirtual 26, 3) := by decide +kernel
theorem dX0_add_66 : decode cX0_add 66 = .ok (.iastore, 1) := by decide +kernel
theorem dX0_add_67 : decode cX0_add 67 = .ok (.aload_n 0, 1) := by decide +kernel
theorem dX0_add_68 : decode cX0_add 68 = .ok (.dup, 1) := by decide +kernel
theorem dX0_add_69 : decode cX0_add 69 = .ok (.getfield 19, 3) := by decide +kernel
theorem dX0_add_72 : decode cX0_add 72 = .ok (.iconst 1, 1) := by decide +kernel
theorem dX0_add_73 : decode cX0_add 73 = .ok (.iadd, 1) := by decide +kernel
theorem dX0_add_74 : decode cX0_add 74 = .ok (.putfield 19, 3) := by decide +kernel
theorem dX0_add_77 : decode cX0_add 77 = .ok (.return_, 1) := by decide +kernel
theorem dX0_letter_0 : decode cX0_letter 0 = .ok (.iload_n 1, 1) := by decide +kernel
theorem dX0_letter_1 : decode cX0_letter 1 = .ok (.ifCond .lt 25, 3) := by decide +kernel
theorem dX0_letter_4 : decode cX0_letter 4 = .ok (.iload_n 1, 1) := by decide +kernel
theorem dX0_letter_5 : decode cX0_letter 5 = .ok (.aload_n 0, 1) := by decide +kernel
theorem dX0_letter_6 : decode cX0_letter 6 = .ok (.getfield 19, 3) := by decide +kernel
theorem dX0_letter_9 : decode cX0_letter 9 = .ok (.if_icmp .ge 17, 3) := by decide +kernel
theorem dX0_letter_12 : decode cX0_letter 12 = .ok (.iload_n 2, 1) := by decide +kernel
theorem dX0_letter_13 : decode cX0_letter 13 = .ok (.ifCond .lt 13, 3) := by decide +kernel
theorem dX0_letter_16 : decode cX0_letter 16 = .ok (.iload_n 2, 1) := by decide +kernel
theorem dX0_letter_17 : decode cX0_letter 17 = .ok (.aload_n 0, 1) := by decide +kernel
theorem dX0_letter_18 : decode cX0_letter 18 = .ok (.getfield 15, 3) := by decide +kernel
theorem dX0_letter_21 : decode cX0_letter 21 = .ok (.iload_n 1, 1) := by decide +kernel
theorem dX0_letter_22 : decode cX0_letter 22 = .ok (.iaload, 1) := by decide +kernel
theorem dX0_letter_23 : decode cX0_letter 23 = .ok (.if_icmp .lt 5, 3) := by decide +kernel
theorem dX0_letter_26 : decode cX0_letter 26 = .ok (.iconst 0, 1) := by decide +kernel
theorem dX0_letter_27 : decode cX0_letter 27 = .ok (.ireturn, 1) := by decide +kernel
theorem dX0_letter_28 : decode cX0_letter 28 = .ok (.aload_n 0, 1) := by decide +kernel
theorem dX0_letter_29 : decode cX0_letter 29 = .ok (.getfield 9, 3) := by decide +kernel
theorem dX0_letter_32 : decode cX0_letter 32 = .ok (.iload_n 1, 1) := by decide +kernel
theorem dX0_letter_33 : decode cX0_letter 33 = .ok (.bipush 53, 2) := by decide +kernel
theorem dX0_letter_35 : decode cX0_letter 35 = .ok (.imul, 1) := by decide +kernel
theorem dX0_letter_36 : decode cX0_letter 36 = .ok (.iload_n 2, 1) := by decide +kernel
theorem dX0_letter_37 : decode cX0_letter 37 = .ok (.iadd, 1) := by decide +kernel
theorem dX0_letter_38 : decode cX0_letter 38 = .ok (.caload, 1) := by decide +kernel
theorem dX0_letter_39 : decode cX0_letter 39 = .ok (.ireturn, 1) := by decide +kernel
theorem dX1_init_0 : decode cX1_init 0 = .ok (.aload_n 0, 1) := by decide +kernel
theorem dX1_init_1 : decode cX1_init 1 = .ok (.invokespecial 3, 3) := by decide +kernel
theorem dX1_init_4 : decode cX1_init 4 = .ok (.aload_n 0, 1) := by decide +kernel
theorem dX1_init_5 : decode cX1_init 5 = .ok (.new 9, 3) := by decide +kernel
theorem dX1_init_8 : decode cX1_init 8 = .ok (.dup, 1) := by decide +kernel
theorem dX1_init_9 : decode cX1_init 9 = .ok (.invokespecial 11, 3) := by decide +kernel
theorem dX1_init_12 : decode cX1_init 12 = .ok (.putfield 12, 3) := by decide +kernel
theorem dX1_init_15 : decode cX1_init 15 = .ok (.aload_n 0, 1) := by decide +kernel
theorem dX1_init_16 : decode cX1_init 16 = .ok (.bipush 6, 2) := by decide +kernel
theorem dX1_init_18 : decode cX1_init 18 = .ok (.newarray .int, 2) := by decide +kernel
theorem dX1_init_20 : decode cX1_init 20 = .ok (.putfield 18, 3) := by decide +kernel
theorem dX1_init_23 : decode cX1_init 23 = .ok (.aload_n 0, 1) := by decide +kernel
theorem dX1_init_24 : decode cX1_init 24 = .ok (.aload_n 1, 1) := by decide +kernel
theorem dX1_init_25 : decode cX1_init 25 = .ok (.putfield 22, 3) := by decide +kernel
theorem dX1_init_28 : decode cX1_init 28 = .ok (.aload_n 0, 1) := by decide +kernel
theorem dX1_init_29 : decode cX1_init 29 = .ok (.aload_n 2, 1) := by decide +kernel
theorem dX1_init_30 : decode cX1_init 30 = .ok (.putfield 26, 3) := by decide +kernel
theorem dX1_init_33 : decode cX1_init 33 = .ok (.aload_n 0, 1) := by decide +kernel
theorem dX1_init_34 : decode cX1_init 34 = .ok (.iload_n 3, 1) := by decide +kernel
theorem dX1_init_35 : decode cX1_init 35 = .ok (.putfield 30, 3) := by decide +kernel
theorem dX1_init_38 : decode cX1_init 38 = .ok (.return_, 1) := by decide +kernel
theorem dX1_child_0 : decode cX1_child 0 = .ok (.iconst 0, 1) := by decide +kernel
theorem dX1_child_1 : decode cX1_child 1 = .ok (.istore_n 2, 1) := by decide +kernel
theorem dX1_child_2 : decode cX1_child 2 = .ok (.iload_n 2, 1) := by decide +kernel
theorem dX1_child_3 : decode cX1_child 3 = .ok (.aload_n 0, 1) := by decide +kernel
theorem dX1_child_4 : decode cX1_child 4 = .ok (.getfield 12, 3) := by decide +kernel
theorem dX1_child_7 : decode cX1_child 7 = .ok (.invokevirtual 34, 3) := by decide +kernel
theorem dX1_child_10 : decode cX1_child 10 = .ok (.if_icmp .ge 42, 3) := by decide +kernel
theorem dX1_child_13 : decode cX1_child 13 = .ok (.aload_n 0, 1) := by decide +kernel
theorem dX1_child_14 : decode cX1_child 14 = .ok (.getfield 12, 3) := by decide +kernel
theorem dX1_child_17 : decode cX1_child 17 = .ok (.iload_n 2, 1) := by decide +kernel
theorem dX1_child_18 : decode cX1_child 18 = .ok (.invokevirtual 38, 3) := by decide +kernel
theorem dX1_child_21 : decode cX1_child 21 = .ok (.checkcast 13, 3) := by decide +kernel
theorem dX1_child_24 : decode cX1_child 24 = .ok (.getfield 22, 3) := by decide +kernel
theorem dX1_child_27 : decode cX1_child 27 = .ok (.aload_n 1, 1) := by decide +kernel
theorem dX1_child_28 : decode cX1_child 28 = .ok (.invokevirtual 42, 3) := by decide +kernel
theorem dX1_child_31 : decode cX1_child 31 = .ok (.ifCond .eq 15, 3) := by decide +kernel
theorem dX1_child_34 : decode cX1_child 34 = .ok (.aload_n 0, 1) := by decide +kernel
theorem dX1_child_35 : decode cX1_child 35 = .ok (.getfield 12, 3) := by decide +kernel
theorem dX1_child_38 : decode cX1_child 38 = .ok (.iload_n 2, 1) := by decide +kernel
theorem dX1_child_39 : decode cX1_child 39 = .ok (.invokevirtual 38, 3) := by decide +kernel
theorem dX1_child_42 : decode cX1_child 42 = .ok (.checkcast 13, 3) := by decide +kernel
theorem dX1_child_45 : decode cX1_child 45 = .ok (.areturn, 1) := by decide +kernel
theorem dX1_child_46 : decode cX1_child 46 = .ok (.iinc 2 1, 3) := by decide +kernel
theorem dX1_child_49 : decode cX1_child 49 = .ok (.goto (-47), 3) := by decide +kernel
theorem dX1_child_52 : decode cX1_child 52 = .ok (.aconst_null, 1) := by decide +kernel
theorem dX1_child_53 : decode cX1_child 53 = .ok (.areturn, 1) := by decide +kernel
theorem dX1_insert_0 : decode cX1_insert 0 = .ok (.iconst 0, 1) := by decide +kernel
theorem dX1_insert_1 : decode cX1_insert 1 = .ok (.istore_n 2, 1) := by decide +kernel
theorem dX1_insert_2 : decode cX1_insert 2 = .ok (.iload_n 2, 1) := by decide +kernel
theorem dX1_insert_3 : decode cX1_insert 3 = .ok (.aload_n 0, 1) := by decide +kernel
theorem dX1_insert_4 : decode cX1_insert 4 = .ok (.getfield 12, 3) := by decide +kernel
theorem dX1_insert_7 : decode cX1_insert 7 = .ok (.invokevirtual 34, 3) := by decide +kernel
theorem dX1_insert_10 : decode cX1_insert 10 = .ok (.if_icmp .ge 33, 3) := by decide +kernel
theorem dX1_insert_13 : decode cX1_insert 13 = .ok (.aload_n 0, 1) := by decide +kernel
theorem dX1_insert_14 : decode cX1_insert 14 = .ok (.getfield 12, 3) := by decide +kernel
theorem dX1_insert_17 : decode cX1_insert 17 = .ok (.iload_n 2, 1) := by decide +kernel
theorem dX1_insert_18 : decode cX1_insert 18 = .ok (.invokevirtual 38, 3) := by decide +kernel
theorem dX1_insert_21 : decode cX1_insert 21 = .ok (.checkcast 13, 3) := by decide +kernel
theorem dX1_insert_24 : decode cX1_insert 24 = .ok (.getfield 22, 3) := by decide +kernel
theorem dX1_insert_27 : decode cX1_insert 27 = .ok (.aload_n 1, 1) := by decide +kernel
theorem dX1_insert_28 : decode cX1_insert 28 = .ok (.getfield 22, 3) := by decide +kernel
theorem dX1_insert_31 : decode cX1_insert 31 = .ok (.invokestatic 48, 3) := by decide +kernel
theorem dX1_insert_34 : decode cX1_insert 34 = .ok (.ifCond .eq 9, 3) := by decide +kernel
theorem dX1_insert_37 : decode cX1_insert 37 = .ok (.iinc 2 1, 3) := by decide +kernel
theorem dX1_insert_40 : decode cX1_insert 40 = .ok (.goto (-38), 3) := by decide +kernel
theorem dX1_insert_43 : decode cX1_insert 43 = .ok (.aload_n 0, 1) := by decide +kernel
theorem dX1_insert_44 : decode cX1_insert 44 = .ok (.getfield 12, 3) := by decide +kernel
theorem dX1_insert_47 : decode cX1_insert 47 = .ok (.iload_n 2, 1) := by decide +kernel
theorem dX1_insert_48 : decode cX1_insert 48 = .ok (.aload_n 1, 1) := by decide +kernel
theorem dX1_insert_49 : decode cX1_insert 49 = .ok (.invokevirtual 52, 3) := by decide +kernel
theorem dX1_insert_52 : decode cX1_insert 52 = .ok (.aload_n 0, 1) := by decide +kernel
theorem dX1_insert_53 : decode cX1_insert 53 = .ok (.invokevirtual 56, 3) := by decide +kernel
theorem dX1_insert_56 : decode cX1_insert 56 = .ok (.return_, 1) := by decide +kernel
theorem dX1_drop_0 : decode cX1_drop 0 = .ok (.iconst 0, 1) := by decide +kernel
theorem dX1_drop_1 : decode cX1_drop 1 = .ok (.istore_n 2, 1) := by decide +kernel
theorem dX1_drop_2 : decode cX1_drop 2 = .ok (.iload_n 2, 1) := by decide +kernel
theorem dX1_drop_3 : decode cX1_drop 3 = .ok (.aload_n 0, 1) := by decide +kernel
theorem dX1_drop_4 : decode cX1_drop 4 = .ok (.getfield 12, 3) := by decide +kernel
theorem dX1_drop_7 : decode cX1_drop 7 = .ok (.invokevirtual 34, 3) := by decide +kernel
theorem dX1_drop_10 : decode cX1_drop 10 = .ok (.if_icmp .ge 35, 3) := by decide +kernel
theorem dX1_drop_13 : decode cX1_drop 13 = .ok (.aload_n 0, 1) := by decide +kernel
theorem dX1_drop_14 : decode cX1_drop 14 = .ok (.getfield 12, 3) := by decide +kernel
theorem dX1_drop_17 : decode cX1_drop 17 = .ok (.iload_n 2, 1) := by decide +kernel
theorem dX1_drop_18 : decode cX1_drop 18 = .ok (.invokevirtual 38, 3) := by decide +kernel
theorem dX1_drop_21 : decode cX1_drop 21 = .ok (.aload_n 1, 1) := by decide +kernel
theorem dX1_drop_22 : decode cX1_drop 22 = .ok (.if_acmp .ne 17, 3) := by decide +kernel
theorem dX1_drop_25 : decode cX1_drop 25 = .ok (.aload_n 0, 1) := by decide +kernel
theorem dX1_drop_26 : decode cX1_drop 26 = .ok (.getfield 12, 3) := by decide +kernel
theorem dX1_drop_29 : decode cX1_drop 29 = .ok (.iload_n 2, 1) := by decide +kernel
theorem dX1_drop_30 : decode cX1_drop 30 = .ok (.invokevirtual 59, 3) := by decide +kernel
theorem dX1_drop_33 : decode cX1_drop 33 = .ok (.pop, 1) := by decide +kernel
theorem dX1_drop_34 : decode cX1_drop 34 = .ok (.aload_n 0, 1) := by decide +kernel
theorem dX1_drop_35 : decode cX1_drop 35 = .ok (.invokevirtual 56, 3) := by decide +kernel
theorem dX1_drop_38 : decode cX1_drop 38 = .ok (.return_, 1) := by decide +kernel
theorem dX1_drop_39 : decode cX1_drop 39 = .ok (.iinc 2 1, 3) := by decide +kernel
theorem dX1_drop_42 : decode cX1_drop 42 = .ok (.goto (-40), 3) := by decide +kernel
theorem dX1_drop_45 : decode cX1_drop 45 = .ok (.return_, 1) := by decide +kernel
theorem dX1_touch_0 : decode cX1_touch 0 = .ok (.aload_n 0, 1) := by decide +kernel
theorem dX1_touch_1 : decode cX1_touch 1 = .ok (.getfield 18, 3) := by decide +kernel
theorem dX1_touch_4 : decode cX1_touch 4 = .ok (.iconst 0, 1) := by decide +kernel
theorem dX1_touch_5 : decode cX1_touch 5 = .ok (.invokestatic 62, 3) := by decide +kernel
theorem dX1_touch_8 : decode cX1_touch 8 = .ok (.return_, 1) := by decide +kernel
theorem dX1_comesBefore_0 : decode cX1_comesBefore 0 = .ok (.aload_n 0, 1) := by decide +kernel
theorem dX1_comesBefore_1 : decode cX1_comesBefore 1 = .ok (.invokevirtual 68, 3) := by decide +kernel
theorem dX1_comesBefore_4 : decode cX1_comesBefore 4 = .ok (.aload_n 1, 1) := by decide +kernel
theorem dX1_comesBefore_5 : decode cX1_comesBefore 5 = .ok (.invokevirtual 68, 3) := by decide +kernel
theorem dX1_comesBefore_8 : decode cX1_comesBefore 8 = .ok (.invokestatic 71, 3) := by decide +kernel
theorem dX1_comesBefore_11 : decode cX1_comesBefore 11 = .ok (.istore_n 2, 1) := by decide +kernel
theorem dX1_comesBefore_12 : decode cX1_comesBefore 12 = .ok (.iconst 0, 1) := by decide +kernel
theorem dX1_comesBefore_13 : decode cX1_comesBefore 13 = .ok (.istore_n 3, 1) := by decide +kernel
theorem dX1_comesBefore_14 : decode cX1_comesBefore 14 = .ok (.iload_n 3, 1) := by decide +kernel
theorem dX1_comesBefore_15 : decode cX1_comesBefore 15 = .ok (.iload_n 2, 1) := by decide +kernel
theorem dX1_comesBefore_16 : decode cX1_comesBefore 16 = .ok (.if_icmp .ge 41, 3) := by decide +kernel
theorem dX1_comesBefore_19 : decode cX1_comesBefore 19 = .ok (.aload_n 0, 1) := by decide +kernel
theorem dX1_comesBefore_20 : decode cX1_comesBefore 20 = .ok (.iload_n 3, 1) := by decide +kernel
theorem dX1_comesBefore_21 : decode cX1_comesBefore 21 = .ok (.invokevirtual 77, 3) := by decide +kernel
theorem dX1_comesBefore_24 : decode cX1_comesBefore 24 = .ok (.aload_n 1, 1) := by decide +kernel
theorem dX1_comesBefore_25 : decode cX1_comesBefore 25 = .ok (.iload_n 3, 1) := by decide +kernel
theorem dX1_comesBefore_26 : decode cX1_comesBefore 26 = .ok (.invokevirtual 77, 3) := by decide +kernel
theorem dX1_comesBefore_29 : decode cX1_comesBefore 29 = .ok (.if_icmp .eq 22, 3) := by decide +kernel
theorem dX1_comesBefore_32 : decode cX1_comesBefore 32 = .ok (.aload_n 0, 1) := by decide +kernel
theorem dX1_comesBefore_33 : decode cX1_comesBefore 33 = .ok (.iload_n 3, 1) := by decide +kernel
theorem dX1_comesBefore_34 : decode cX1_comesBefore 34 = .ok (.invokevirtual 77, 3) := by decide +kernel
theorem dX1_comesBefore_37 : decode cX1_comesBefore 37 = .ok (.aload_n 1, 1) := by decide +kernel
theorem dX1_comesBefore_38 : decode cX1_comesBefore 38 = .ok (.iload_n 3, 1) := by decide +kernel
theorem dX1_comesBefore_39 : decode cX1_comesBefore 39 = .ok (.invokevirtual 77, 3) := by decide +kernel
theorem dX1_comesBefore_42 : decode cX1_comesBefore 42 = .ok (.if_icmp .ge 7, 3) := by decide +kernel
theorem dX1_comesBefore_45 : decode cX1_comesBefore 45 = .ok (.iconst 1, 1) := by decide +kernel
theorem dX1_comesBefore_46 : decode cX1_comesBefore 46 = .ok (.goto 4, 3) := by decide +kernel
theorem dX1_comesBefore_49 : decode cX1_comesBefore 49 = .ok (.iconst 0, 1) := by decide +kernel
theorem dX1_comesBefore_50 : decode cX1_comesBefore 50 = .ok (.ireturn, 1) := by decide +kernel
theorem dX1_comesBefore_51 : decode cX1_comesBefore 51 = .ok (.iinc 3 1, 3) := by decide +kernel
theorem dX1_comesBefore_54 : decode cX1_comesBefore 54 = .ok (.goto (-40), 3) := by decide +kernel
theorem dX1_comesBefore_57 : decode cX1_comesBefore 57 = .ok (.aload_n 0, 1) := by decide +kernel
theorem dX1_comesBefore_58 : decode cX1_comesBefore 58 = .ok (.invokevirtual 68, 3) := by decide +kernel
theorem dX1_comesBefore_61 : decode cX1_comesBefore 61 = .ok (.aload_n 1, 1) := by decide +kernel
theorem dX1_comesBefore_62 : decode cX1_comesBefore 62 = .ok (.invokevirtual 68, 3) := by decide +kernel
theorem dX1_comesBefore_65 : decode cX1_comesBefore 65 = .ok (.if_icmp .ge 7, 3) := by decide +kernel
theorem dX1_comesBefore_68 : decode cX1_comesBefore 68 = .ok (.iconst 1, 1) := by decide +kernel
theorem dX1_comesBefore_69 : decode cX1_comesBefore 69 = .ok (.goto 4, 3) := by decide +kernel
theorem dX1_comesBefore_72 : decode cX1_comesBefore 72 = .ok (.iconst 0, 1) := by decide +kernel
theorem dX1_comesBefore_73 : decode cX1_comesBefore 73 = .ok (.ireturn, 1) := by decide +kernel
theorem dX2_init_0 : decode cX2_init 0 = .ok (.aload_n 0, 1) := by decide +kernel
theorem dX2_init_1 : decode cX2_init 1 = .ok (.invokespecial 1, 3) := by decide +kernel
theorem dX2_init_4 : decode cX2_init 4 = .ok (.aload_n 0, 1) := by decide +kernel
theorem dX2_init_5 : decode cX2_init 5 = .ok (.aload_n 1, 1) := by decide +kernel
theorem dX2_init_6 : decode cX2_init 6 = .ok (.putfield 7, 3) := by decide +kernel
theorem dX2_init_9 : decode cX2_init 9 = .ok (.return_, 1) := by decide +kernel
theorem dX3_init_0 : decode cX3_init 0 = .ok (.aload_n 0, 1) := by decide +kernel
theorem dX3_init_1 : decode cX3_init 1 = .ok (.invokespecial 3, 3) := by decide +kernel
theorem dX3_init_4 : decode cX3_init 4 = .ok (.aload_n 0, 1) := by decide +kernel
theorem dX3_init_5 : decode cX3_init 5 = .ok (.bipush 6, 2) := by decide +kernel
theorem dX3_init_7 : decode cX3_init 7 = .ok (.newarray .int, 2) := by decide +kernel
theorem dX3_init_9 : decode cX3_init 9 = .ok (.putfield 9, 3) := by decide +kernel
theorem dX3_init_12 : decode cX3_init 12 = .ok (.aload_n 0, 1) := by decide +kernel
theorem dX3_init_13 : decode cX3_init 13 = .ok (.bipush 6, 2) := by decide +kernel
theorem dX3_init_15 : decode cX3_init 15 = .ok (.newarray .int, 2) := by decide +kernel
theorem dX3_init_17 : decode cX3_init 17 = .ok (.putfield 15, 3) := by decide +kernel
theorem dX3_init_20 : decode cX3_init 20 = .ok (.aload_n 0, 1) := by decide +kernel
theorem dX3_init_21 : decode cX3_init 21 = .ok (.aload_n 1, 1) := by decide +kernel
theorem dX3_init_22 : decode cX3_init 22 = .ok (.putfield 18, 3) := by decide +kernel
theorem dX3_init_25 : decode cX3_init 25 = .ok (.return_, 1) := by decide +kernel
theorem dX3_read_0 : decode cX3_read 0 = .ok (.new 10, 3) := by decide +kernel
theorem dX3_read_3 : decode cX3_read 3 = .ok (.dup, 1) := by decide +kernel
theorem dX3_read_4 : decode cX3_read 4 = .ok (.aload_n 0, 1) := by decide +kernel
theorem dX3_read_5 : decode cX3_read 5 = .ok (.invokespecial 22, 3) := by decide +kernel
theorem dX3_read_8 : decode cX3_read 8 = .ok (.astore_n 1, 1) := by decide +kernel
theorem dX3_read_9 : decode cX3_read 9 = .ok (.iconst 0, 1) := by decide +kernel
theorem dX3_read_10 : decode cX3_read 10 = .ok (.istore_n 2, 1) := by decide +kernel
theorem dX3_read_11 : decode cX3_read 11 = .ok (.iconst 0, 1) := by decide +kernel
theorem dX3_read_12 : decode cX3_read 12 = .ok (.istore_n 3, 1) := by decide +kernel
theorem dX3_read_13 : decode cX3_read 13 = .ok (.iload_n 3, 1) := by decide +kernel
theorem dX3_read_14 : decode cX3_read 14 = .ok (.aload_n 0, 1) := by decide +kernel
theorem dX3_read_15 : decode cX3_read 15 = .ok (.invokevirtual 25, 3) := by decide +kernel
theorem dX3_read_18 : decode cX3_read 18 = .ok (.if_icmp .gt 42, 3) := by decide +kernel
theorem dX3_read_21 : decode cX3_read 21 = .ok (.iload_n 3, 1) := by decide +kernel
theorem dX3_read_22 : decode cX3_read 22 = .ok (.aload_n 0, 1) := by decide +kernel
theorem dX3_read_23 : decode cX3_read 23 = .ok (.invokevirtual 25, 3) := by decide +kernel
theorem dX3_read_26 : decode cX3_read 26 = .ok (.if_icmp .eq 13, 3) := by decide +kernel
theorem dX3_read_29 : decode cX3_read 29 = .ok (.aload_n 0, 1) := by decide +kernel
theorem dX3_read_30 : decode cX3_read 30 = .ok (.iload_n 3, 1) := by decide +kernel
theorem dX3_read_31 : decode cX3_read 31 = .ok (.invokevirtual 31, 3) := by decide +kernel
theorem dX3_read_34 : decode cX3_read 34 = .ok (.bipush 47, 2) := by decide +kernel
theorem dX3_read_36 : decode cX3_read 36 = .ok (.if_icmp .ne 18, 3) := by decide +kernel
theorem dX3_read_39 : decode cX3_read 39 = .ok (.aload_n 1, 1) := by decide +kernel
theorem dX3_read_40 : decode cX3_read 40 = .ok (.iload_n 2, 1) := by decide +kernel
theorem dX3_read_41 : decode cX3_read 41 = .ok (.iload_n 3, 1) := by decide +kernel
theorem dX3_read_42 : decode cX3_read 42 = .ok (.invokevirtual 35, 3) := by decide +kernel
theorem dX3_read_45 : decode cX3_read 45 = .ok (.ifCond .ne 5, 3) := by decide +kernel
theorem dX3_read_48 : decode cX3_read 48 = .ok (.aconst_null, 1) := by decide +kernel
theorem dX3_read_49 : decode cX3_read 49 = .ok (.areturn, 1) := by decide +kernel
theorem dX3_read_50 : decode cX3_read 50 = .ok (.iload_n 3, 1) := by decide +kernel
theorem dX3_read_51 : decode cX3_read 51 = .ok (.iconst 1, 1) := by decide +kernel
theorem dX3_read_52 : decode cX3_read 52 = .ok (.iadd, 1) := by decide +kernel
theorem dX3_read_53 : decode cX3_read 53 = .ok (.istore_n 2, 1) := by decide +kernel
theorem dX3_read_54 : decode cX3_read 54 = .ok (.iinc 3 1, 3) := by decide +kernel
theorem dX3_read_57 : decode cX3_read 57 = .ok (.goto (-44), 3) := by decide +kernel
theorem dX3_read_60 : decode cX3_read 60 = .ok (.aload_n 1, 1) := by decide +kernel
theorem dX3_read_61 : decode cX3_read 61 = .ok (.areturn, 1) := by decide +kernel
theorem dX3_add_0 : decode cX3_add 0 = .ok (.aload_n 0, 1) := by decide +kernel
theorem dX3_add_1 : decode cX3_add 1 = .ok (.getfield 39, 3) := by decide +kernel
theorem dX3_add_4 : decode cX3_add 4 = .ok (.bipush 6, 2) := by decide +kernel
theorem dX3_add_6 : decode cX3_add 6 = .ok (.if_icmp .ge 18, 3) := by decide +kernel
theorem dX3_add_9 : decode cX3_add 9 = .ok (.aload_n 0, 1) := by decide +kernel
theorem dX3_add_10 : decode cX3_add 10 = .ok (.getfield 18, 3) := by decide +kernel
theorem dX3_add_13 : decode cX3_add 13 = .ok (.iload_n 1, 1) := by decide +kernel
theorem dX3_add_14 : decode cX3_add 14 = .ok (.iload_n 2, 1) := by decide +kernel
theorem dX3_add_15 : decode cX3_add 15 = .ok (.invokevirtual 43, 3) := by decide +kernel
theorem dX3_add_18 : decode cX3_add 18 = .ok (.invokestatic 47, 3) := by decide +kernel
theorem dX3_add_21 : decode cX3_add 21 = .ok (.ifCond .ne 5, 3) := by decide +kernel
theorem dX3_add_24 : decode cX3_add 24 = .ok (.iconst 0, 1) := by decide +kernel
theorem dX3_add_25 : decode cX3_add 25 = .ok (.ireturn, 1) := by decide +kernel
theorem dX3_add_26 : decode cX3_add 26 = .ok (.aload_n 0, 1) := by decide +kernel
theorem dX3_add_27 : decode cX3_add 27 = .ok (.getfield 9, 3) := by decide +kernel
theorem dX3_add_30 : decode cX3_add 30 = .ok (.aload_n 0, 1) := by decide +kernel
theorem dX3_add_31 : decode cX3_add 31 = .ok (.getfield 39, 3) := by decide +kernel
theorem dX3_add_34 : decode cX3_add 34 = .ok (.iload_n 1, 1) := by decide +kernel
theorem dX3_add_35 : decode cX3_add 35 = .ok (.iastore, 1) := by decide +kernel
theorem dX3_add_36 : decode cX3_add 36 = .ok (.aload_n 0, 1) := by decide +kernel
theorem dX3_add_37 : decode cX3_add 37 = .ok (.getfield 15, 3) := by decide +kernel
theorem dX3_add_40 : decode cX3_add 40 = .ok (.aload_n 0, 1) := by decide +kernel
theorem dX3_add_41 : decode cX3_add 41 = .ok (.getfield 39, 3) := by decide +kernel
theorem dX3_add_44 : decode cX3_add 44 = .ok (.iload_n 2, 1) := by decide +kernel
theorem dX3_add_45 : decode cX3_add 45 = .ok (.iastore, 1) := by decide +kernel
theorem dX3_add_46 : decode cX3_add 46 = .ok (.aload_n 0, 1) := by decide +kernel
theorem dX3_add_47 : decode cX3_add 47 = .ok (.dup, 1) := by decide +kernel
theorem dX3_add_48 : decode cX3_add 48 = .ok (.getfield 39, 3) := by decide +kernel
theorem dX3_add_51 : decode cX3_add 51 = .ok (.iconst 1, 1) := by decide +kernel
theorem dX3_add_52 : decode cX3_add 52 = .ok (.iadd, 1) := by decide +kernel
theorem dX3_add_53 : decode cX3_add 53 = .ok (.putfield 39, 3) := by decide +kernel
theorem dX3_add_56 : decode cX3_add 56 = .ok (.iconst 1, 1) := by decide +kernel
theorem dX3_add_57 : decode cX3_add 57 = .ok (.ireturn, 1) := by decide +kernel
theorem dX3_isName_0 : decode cX3_isName 0 = .ok (.aload_n 0, 1) := by decide +kernel
theorem dX3_isName_1 : decode cX3_isName 1 = .ok (.invokevirtual 51, 3) := by decide +kernel
theorem dX3_isName_4 : decode cX3_isName 4 = .ok (.ifCond .ne 19, 3) := by decide +kernel
theorem dX3_isName_7 : decode cX3_isName 7 = .ok (.aload_n 0, 1) := by decide +kernel
theorem dX3_isName_8 : decode cX3_isName 8 = .ok (.invokevirtual 25, 3) := by decide +kernel
theorem dX3_isName_11 : decode cX3_isName 11 = .ok (.bipush 8, 2) := by decide +kernel
theorem dX3_isName_13 : decode cX3_isName 13 = .ok (.if_icmp .gt 10, 3) := by decide +kernel
theorem dX3_isName_16 : decode cX3_isName 16 = .ok (.aload_n 0, 1) := by decide +kernel
theorem dX3_isName_17 : decode cX3_isName 17 = .ok (.invokestatic 55, 3) := by decide +kernel
theorem dX3_isName_20 : decode cX3_isName 20 = .ok (.ifCond .eq 5, 3) := by decide +kernel
theorem dX3_isName_23 : decode cX3_isName 23 = .ok (.iconst 0, 1) := by decide +kernel
theorem dX3_isName_24 : decode cX3_isName 24 = .ok (.ireturn, 1) := by decide +kernel
theorem dX3_isName_25 : decode cX3_isName 25 = .ok (.iconst 0, 1) := by decide +kernel
theorem dX3_isName_26 : decode cX3_isName 26 = .ok (.istore_n 1, 1) := by decide +kernel
theorem dX3_isName_27 : decode cX3_isName 27 = .ok (.iload_n 1, 1) := by decide +kernel
theorem dX3_isName_28 : decode cX3_isName 28 = .ok (.aload_n 0, 1) := by decide +kernel
theorem dX3_isName_29 : decode cX3_isName 29 = .ok (.invokevirtual 25, 3) := by decide +kernel
theorem dX3_isName_32 : decode cX3_isName 32 = .ok (.if_icmp .ge 22, 3) := by decide +kernel
theorem dX3_isName_35 : decode cX3_isName 35 = .ok (.aload_n 0, 1) := by decide +kernel
theorem dX3_isName_36 : decode cX3_isName 36 = .ok (.iload_n 1, 1) := by decide +kernel
theorem dX3_isName_37 : decode cX3_isName 37 = .ok (.invokevirtual 31, 3) := by decide +kernel
theorem dX3_isName_40 : decode cX3_isName 40 = .ok (.invokestatic 58, 3) := by decide +kernel
theorem dX3_isName_43 : decode cX3_isName 43 = .ok (.ifCond .ne 5, 3) := by decide +kernel
theorem dX3_isName_46 : decode cX3_isName 46 = .ok (.iconst 0, 1) := by decide +kernel
theorem dX3_isName_47 : decode cX3_isName 47 = .ok (.ireturn, 1) := by decide +kernel
theorem dX3_isName_48 : decode cX3_isName 48 = .ok (.iinc 1 1, 3) := by decide +kernel
theorem dX3_isName_51 : decode cX3_isName 51 = .ok (.goto (-24), 3) := by decide +kernel
theorem dX3_isName_54 : decode cX3_isName 54 = .ok (.iconst 1, 1) := by decide +kernel
theorem dX3_isName_55 : decode cX3_isName 55 = .ok (.ireturn, 1) := by decide +kernel
theorem dX3_name_0 : decode cX3_name 0 = .ok (.iload_n 1, 1) := by decide +kernel
theorem dX3_name_1 : decode cX3_name 1 = .ok (.ifCond .lt 33, 3) := by decide +kernel
theorem dX3_name_4 : decode cX3_name 4 = .ok (.iload_n 1, 1) := by decide +kernel
theorem dX3_name_5 : decode cX3_name 5 = .ok (.aload_n 0, 1) := by decide +kernel
theorem dX3_name_6 : decode cX3_name 6 = .ok (.getfield 39, 3) := by decide +kernel
theorem dX3_name_9 : decode cX3_name 9 = .ok (.if_icmp .ge 25, 3) := by decide +kernel
theorem dX3_name_12 : decode cX3_name 12 = .ok (.aload_n 0, 1) := by decide +kernel
theorem dX3_name_13 : decode cX3_name 13 = .ok (.getfield 18, 3) := by decide +kernel
theorem dX3_name_16 : decode cX3_name 16 = .ok (.aload_n 0, 1) := by decide +kernel
theorem dX3_name_17 : decode cX3_name 17 = .ok (.getfield 9, 3) := by decide +kernel
theorem dX3_name_20 : decode cX3_name 20 = .ok (.iload_n 1, 1) := by decide +kernel
theorem dX3_name_21 : decode cX3_name 21 = .ok (.iaload, 1) := by decide +kernel
theorem dX3_name_22 : decode cX3_name 22 = .ok (.aload_n 0, 1) := by decide +kernel
theorem dX3_name_23 : decode cX3_name 23 = .ok (.getfield 15, 3) := by decide +kernel
theorem dX3_name_26 : decode cX3_name 26 = .ok (.iload_n 1, 1) := by decide +kernel
theorem dX3_name_27 : decode cX3_name 27 = .ok (.iaload, 1) := by decide +kernel
theorem dX3_name_28 : decode cX3_name 28 = .ok (.invokevirtual 43, 3) := by decide +kernel
theorem dX3_name_31 : decode cX3_name 31 = .ok (.goto 5, 3) := by decide +kernel
theorem dX3_name_34 : decode cX3_name 34 = .ok (.ldc 62, 2) := by decide +kernel
theorem dX3_name_36 : decode cX3_name 36 = .ok (.areturn, 1) := by decide +kernel
theorem dX4_init_0 : decode cX4_init 0 = .ok (.aload_n 0, 1) := by decide +kernel
theorem dX4_init_1 : decode cX4_init 1 = .ok (.invokespecial 3, 3) := by decide +kernel
theorem dX4_init_4 : decode cX4_init 4 = .ok (.aload_n 0, 1) := by decide +kernel
theorem dX4_init_5 : decode cX4_init 5 = .ok (.new 9, 3) := by decide +kernel
theorem dX4_init_8 : decode cX4_init 8 = .ok (.dup, 1) := by decide +kernel
theorem dX4_init_9 : decode cX4_init 9 = .ok (.invokespecial 11, 3) := by decide +kernel
theorem dX4_init_12 : decode cX4_init 12 = .ok (.putfield 12, 3) := by decide +kernel
theorem dX4_init_15 : decode cX4_init 15 = .ok (.aload_n 0, 1) := by decide +kernel
theorem dX4_init_16 : decode cX4_init 16 = .ok (.bipush 7, 2) := by decide +kernel
theorem dX4_init_18 : decode cX4_init 18 = .ok (.newarray .int, 2) := by decide +kernel
theorem dX4_init_20 : decode cX4_init 20 = .ok (.putfield 18, 3) := by decide +kernel
theorem dX4_init_23 : decode cX4_init 23 = .ok (.aload_n 0, 1) := by decide +kernel
theorem dX4_init_24 : decode cX4_init 24 = .ok (.iload_n 1, 1) := by decide +kernel
theorem dX4_init_25 : decode cX4_init 25 = .ok (.putfield 22, 3) := by decide +kernel
theorem dX4_init_28 : decode cX4_init 28 = .ok (.return_, 1) := by decide +kernel
theorem dX4_isFull_0 : decode cX4_isFull 0 = .ok (.aload_n 0, 1) := by decide +kernel
theorem dX4_isFull_1 : decode cX4_isFull 1 = .ok (.getfield 12, 3) := by decide +kernel
theorem dX4_isFull_4 : decode cX4_isFull 4 = .ok (.invokevirtual 26, 3) := by decide +kernel
theorem dX4_isFull_7 : decode cX4_isFull 7 = .ok (.bipush 6, 2) := by decide +kernel
theorem dX4_isFull_9 : decode cX4_isFull 9 = .ok (.if_icmp .lt 7, 3) := by decide +kernel
theorem dX4_isFull_12 : decode cX4_isFull 12 = .ok (.iconst 1, 1) := by decide +kernel
theorem dX4_isFull_13 : decode cX4_isFull 13 = .ok (.goto 4, 3) := by decide +kernel
theorem dX4_isFull_16 : decode cX4_isFull 16 = .ok (.iconst 0, 1) := by decide +kernel
theorem dX4_isFull_17 : decode cX4_isFull 17 = .ok (.ireturn, 1) := by decide +kernel
theorem dX4_endsDeep_0 : decode cX4_endsDeep 0 = .ok (.aload_n 0, 1) := by decide +kernel
theorem dX4_endsDeep_1 : decode cX4_endsDeep 1 = .ok (.getfield 12, 3) := by decide +kernel
theorem dX4_endsDeep_4 : decode cX4_endsDeep 4 = .ok (.invokevirtual 30, 3) := by decide +kernel
theorem dX4_endsDeep_7 : decode cX4_endsDeep 7 = .ok (.ifCond .ne 32, 3) := by decide +kernel
theorem dX4_endsDeep_10 : decode cX4_endsDeep 10 = .ok (.aload_n 0, 1) := by decide +kernel
theorem dX4_endsDeep_11 : decode cX4_endsDeep 11 = .ok (.getfield 12, 3) := by decide +kernel
theorem dX4_endsDeep_14 : decode cX4_endsDeep 14 = .ok (.aload_n 0, 1) := by decide +kernel
theorem dX4_endsDeep_15 : decode cX4_endsDeep 15 = .ok (.getfield 12, 3) := by decide +kernel
theorem dX4_endsDeep_18 : decode cX4_endsDeep 18 = .ok (.invokevirtual 26, 3) := by decide +kernel
theorem dX4_endsDeep_21 : decode cX4_endsDeep 21 = .ok (.iconst 1, 1) := by decide +kernel
theorem dX4_endsDeep_22 : decode cX4_endsDeep 22 = .ok (.isub, 1) := by decide +kernel
theorem dX4_endsDeep_23 : decode cX4_endsDeep 23 = .ok (.invokevirtual 34, 3) := by decide +kernel
theorem dX4_endsDeep_26 : decode cX4_endsDeep 26 = .ok (.checkcast 38, 3) := by decide +kernel
theorem dX4_endsDeep_29 : decode cX4_endsDeep 29 = .ok (.getfield 40, 3) := by decide +kernel
theorem dX4_endsDeep_32 : decode cX4_endsDeep 32 = .ok (.ifCond .eq 7, 3) := by decide +kernel
theorem dX4_endsDeep_35 : decode cX4_endsDeep 35 = .ok (.iconst 1, 1) := by decide +kernel
theorem dX4_endsDeep_36 : decode cX4_endsDeep 36 = .ok (.goto 4, 3) := by decide +kernel
theorem dX4_endsDeep_39 : decode cX4_endsDeep 39 = .ok (.iconst 0, 1) := by decide +kernel
theorem dX4_endsDeep_40 : decode cX4_endsDeep 40 = .ok (.ireturn, 1) := by decide +kernel
theorem dX4_add_0 : decode cX4_add 0 = .ok (.aload_n 1, 1) := by decide +kernel
theorem dX4_add_1 : decode cX4_add 1 = .ok (.getfield 40, 3) := by decide +kernel
theorem dX4_add_4 : decode cX4_add 4 = .ok (.ifCond .eq 21, 3) := by decide +kernel
theorem dX4_add_7 : decode cX4_add 7 = .ok (.aload_n 0, 1) := by decide +kernel
theorem dX4_add_8 : decode cX4_add 8 = .ok (.dup, 1) := by decide +kernel
theorem dX4_add_9 : decode cX4_add 9 = .ok (.getfield 43, 3) := by decide +kernel
theorem dX4_add_12 : decode cX4_add 12 = .ok (.iconst 1, 1) := by decide +kernel
theorem dX4_add_13 : decode cX4_add 13 = .ok (.aload_n 0, 1) := by decide +kernel
theorem dX4_add_14 : decode cX4_add 14 = .ok (.getfield 12, 3) := by decide +kernel
theorem dX4_add_17 : decode cX4_add 17 = .ok (.invokevirtual 26, 3) := by decide +kernel
theorem dX4_add_20 : decode cX4_add 20 = .ok (.ishl, 1) := by decide +kernel
theorem dX4_add_21 : decode cX4_add 21 = .ok (.ior, 1) := by decide +kernel
theorem dX4_add_22 : decode cX4_add 22 = .ok (.putfield 43, 3) := by decide +kernel
theorem dX4_add_25 : decode cX4_add 25 = .ok (.aload_n 0, 1) := by decide +kernel
theorem dX4_add_26 : decode cX4_add 26 = .ok (.getfield 12, 3) := by decide +kernel
theorem dX4_add_29 : decode cX4_add 29 = .ok (.aload_n 1, 1) := by decide +kernel
theorem dX4_add_30 : decode cX4_add 30 = .ok (.invokevirtual 47, 3) := by decide +kernel
theorem dX4_add_33 : decode cX4_add 33 = .ok (.pop, 1) := by decide +kernel
theorem dX4_add_34 : decode cX4_add 34 = .ok (.return_, 1) := by decide +kernel
theorem dX4_begin_0 : decode cX4_begin 0 = .ok (.aload_n 0, 1) := by decide +kernel
theorem dX4_begin_1 : decode cX4_begin 1 = .ok (.getfield 18, 3) := by decide +kernel
theorem dX4_begin_4 : decode cX4_begin 4 = .ok (.iconst 0, 1) := by decide +kernel
theorem dX4_begin_5 : decode cX4_begin 5 = .ok (.iconst 1, 1) := by decide +kernel
theorem dX4_begin_6 : decode cX4_begin 6 = .ok (.aload_n 0, 1) := by decide +kernel
theorem dX4_begin_7 : decode cX4_begin 7 = .ok (.getfield 43, 3) := by decide +kernel
theorem dX4_begin_10 : decode cX4_begin 10 = .ok (.invokestatic 51, 3) := by decide +kernel
theorem dX4_begin_13 : decode cX4_begin 13 = .ok (.iastore, 1) := by decide +kernel
theorem dX4_begin_14 : decode cX4_begin 14 = .ok (.return_, 1) := by decide +kernel
theorem dX4_pass_0 : decode cX4_pass 0 = .ok (.iload_n 2, 1) := by decide +kernel
theorem dX4_pass_1 : decode cX4_pass 1 = .ok (.iconst 1, 1) := by decide +kernel
theorem dX4_pass_2 : decode cX4_pass 2 = .ok (.if_icmp .lt 12, 3) := by decide +kernel
theorem dX4_pass_5 : decode cX4_pass 5 = .ok (.iload_n 2, 1) := by decide +kernel
theorem dX4_pass_6 : decode cX4_pass 6 = .ok (.aload_n 0, 1) := by decide +kernel
theorem dX4_pass_7 : decode cX4_pass 7 = .ok (.getfield 18, 3) := by decide +kernel
theorem dX4_pass_10 : decode cX4_pass 10 = .ok (.arraylength, 1) := by decide +kernel
theorem dX4_pass_11 : decode cX4_pass 11 = .ok (.if_icmp .lt 4, 3) := by decide +kernel
theorem dX4_pass_14 : decode cX4_pass 14 = .ok (.return_, 1) := by decide +kernel
theorem dX4_pass_15 : decode cX4_pass 15 = .ok (.aload_n 0, 1) := by decide +kernel
theorem dX4_pass_16 : decode cX4_pass 16 = .ok (.getfield 18, 3) := by decide +kernel
theorem dX4_pass_19 : decode cX4_pass 19 = .ok (.iload_n 2, 1) := by decide +kernel
theorem dX4_pass_20 : decode cX4_pass 20 = .ok (.iconst 1, 1) := by decide +kernel
theorem dX4_pass_21 : decode cX4_pass 21 = .ok (.isub, 1) := by decide +kernel
theorem dX4_pass_22 : decode cX4_pass 22 = .ok (.iaload, 1) := by decide +kernel
theorem dX4_pass_23 : decode cX4_pass 23 = .ok (.istore_n 3, 1) := by decide +kernel
theorem dX4_pass_24 : decode cX4_pass 24 = .ok (.iload_n 3, 1) := by decide +kernel
theorem dX4_pass_25 : decode cX4_pass 25 = .ok (.aload_n 0, 1) := by decide +kernel
theorem dX4_pass_26 : decode cX4_pass 26 = .ok (.getfield 43, 3) := by decide +kernel
theorem dX4_pass_29 : decode cX4_pass 29 = .ok (.iand, 1) := by decide +kernel
theorem dX4_pass_30 : decode cX4_pass 30 = .ok (.istore 4, 2) := by decide +kernel
theorem dX4_pass_32 : decode cX4_pass 32 = .ok (.iconst 0, 1) := by decide +kernel
theorem dX4_pass_33 : decode cX4_pass 33 = .ok (.istore 5, 2) := by decide +kernel
theorem dX4_pass_35 : decode cX4_pass 35 = .ok (.iload 5, 2) := by decide +kernel
theorem dX4_pass_37 : decode cX4_pass 37 = .ok (.aload_n 0, 1) := by decide +kernel
theorem dX4_pass_38 : decode cX4_pass 38 = .ok (.getfield 12, 3) := by decide +kernel
theorem dX4_pass_41 : decode cX4_pass 41 = .ok (.invokevirtual 26, 3) := by decide +kernel
theorem dX4_pass_44 : decode cX4_pass 44 = .ok (.if_icmp .ge 60, 3) := by decide +kernel
theorem dX4_pass_47 : decode cX4_pass 47 = .ok (.aload_n 0, 1) := by decide +kernel
theorem dX4_pass_48 : decode cX4_pass 48 = .ok (.getfield 12, 3) := by decide +kernel
theorem dX4_pass_51 : decode cX4_pass 51 = .ok (.iload 5, 2) := by decide +kernel
theorem dX4_pass_53 : decode cX4_pass 53 = .ok (.invokevirtual 34, 3) := by decide +kernel
theorem dX4_pass_56 : decode cX4_pass 56 = .ok (.checkcast 38, 3) := by decide +kernel
theorem dX4_pass_59 : decode cX4_pass 59 = .ok (.astore 6, 2) := by decide +kernel
theorem dX4_pass_61 : decode cX4_pass 61 = .ok (.iload_n 3, 1) := by decide +kernel
theorem dX4_pass_62 : decode cX4_pass 62 = .ok (.iconst 1, 1) := by decide +kernel
theorem dX4_pass_63 : decode cX4_pass 63 = .ok (.iload 5, 2) := by decide +kernel
theorem dX4_pass_65 : decode cX4_pass 65 = .ok (.ishl, 1) := by decide +kernel
theorem dX4_pass_66 : decode cX4_pass 66 = .ok (.iand, 1) := by decide +kernel
theorem dX4_pass_67 : decode cX4_pass 67 = .ok (.ifCond .eq 31, 3) := by decide +kernel
theorem dX4_pass_70 : decode cX4_pass 70 = .ok (.aload 6, 2) := by decide +kernel
theorem dX4_pass_72 : decode cX4_pass 72 = .ok (.getfield 40, 3) := by decide +kernel
theorem dX4_pass_75 : decode cX4_pass 75 = .ok (.ifCond .ne 23, 3) := by decide +kernel
theorem dX4_pass_78 : decode cX4_pass 78 = .ok (.aload 6, 2) := by decide +kernel
theorem dX4_pass_80 : decode cX4_pass 80 = .ok (.aload_n 1, 1) := by decide +kernel
theorem dX4_pass_81 : decode cX4_pass 81 = .ok (.invokevirtual 55, 3) := by decide +kernel
theorem dX4_pass_84 : decode cX4_pass 84 = .ok (.ifCond .eq 14, 3) := by decide +kernel
theorem dX4_pass_87 : decode cX4_pass 87 = .ok (.iload 4, 2) := by decide +kernel
theorem dX4_pass_89 : decode cX4_pass 89 = .ok (.iconst 1, 1) := by decide +kernel
theorem dX4_pass_90 : decode cX4_pass 90 = .ok (.iload 5, 2) := by decide +kernel
theorem dX4_pass_92 : decode cX4_pass 92 = .ok (.iconst 1, 1) := by decide +kernel
theorem dX4_pass_93 : decode cX4_pass 93 = .ok (.iadd, 1) := by decide +kernel
theorem dX4_pass_94 : decode cX4_pass 94 = .ok (.ishl, 1) := by decide +kernel
theorem dX4_pass_95 : decode cX4_pass 95 = .ok (.ior, 1) := by decide +kernel
theorem dX4_pass_96 : decode cX4_pass 96 = .ok (.istore 4, 2) := by decide +kernel
theorem dX4_pass_98 : decode cX4_pass 98 = .ok (.iinc 5 1, 3) := by decide +kernel
theorem dX4_pass_101 : decode cX4_pass 101 = .ok (.goto (-66), 3) := by decide +kernel
theorem dX4_pass_104 : decode cX4_pass 104 = .ok (.aload_n 0, 1) := by decide +kernel
theorem dX4_pass_105 : decode cX4_pass 105 = .ok (.getfield 18, 3) := by decide +kernel
theorem dX4_pass_108 : decode cX4_pass 108 = .ok (.iload_n 2, 1) := by decide +kernel
theorem dX4_pass_109 : decode cX4_pass 109 = .ok (.iload 4, 2) := by decide +kernel
theorem dX4_pass_111 : decode cX4_pass 111 = .ok (.aload_n 0, 1) := by decide +kernel
theorem dX4_pass_112 : decode cX4_pass 112 = .ok (.getfield 43, 3) := by decide +kernel
theorem dX4_pass_115 : decode cX4_pass 115 = .ok (.invokestatic 51, 3) := by decide +kernel
theorem dX4_pass_118 : decode cX4_pass 118 = .ok (.iastore, 1) := by decide +kernel
theorem dX4_pass_119 : decode cX4_pass 119 = .ok (.return_, 1) := by decide +kernel
theorem dX4_fits_0 : decode cX4_fits 0 = .ok (.iload_n 1, 1) := by decide +kernel
theorem dX4_fits_1 : decode cX4_fits 1 = .ok (.aload_n 0, 1) := by decide +kernel
theorem dX4_fits_2 : decode cX4_fits 2 = .ok (.getfield 59, 3) := by decide +kernel
theorem dX4_fits_5 : decode cX4_fits 5 = .ok (.if_icmp .ne 25, 3) := by decide +kernel
theorem dX4_fits_8 : decode cX4_fits 8 = .ok (.aload_n 0, 1) := by decide +kernel
theorem dX4_fits_9 : decode cX4_fits 9 = .ok (.iload_n 2, 1) := by decide +kernel
theorem dX4_fits_10 : decode cX4_fits 10 = .ok (.invokevirtual 62, 3) := by decide +kernel
theorem dX4_fits_13 : decode cX4_fits 13 = .ok (.iconst 1, 1) := by decide +kernel
theorem dX4_fits_14 : decode cX4_fits 14 = .ok (.aload_n 0, 1) := by decide +kernel
theorem dX4_fits_15 : decode cX4_fits 15 = .ok (.getfield 12, 3) := by decide +kernel
theorem dX4_fits_18 : decode cX4_fits 18 = .ok (.invokevirtual 26, 3) := by decide +kernel
theorem dX4_fits_21 : decode cX4_fits 21 = .ok (.ishl, 1) := by decide +kernel
theorem dX4_fits_22 : decode cX4_fits 22 = .ok (.iand, 1) := by decide +kernel
theorem dX4_fits_23 : decode cX4_fits 23 = .ok (.ifCond .eq 7, 3) := by decide +kernel
theorem dX4_fits_26 : decode cX4_fits 26 = .ok (.iconst 1, 1) := by decide +kernel
theorem dX4_fits_27 : decode cX4_fits 27 = .ok (.goto 4, 3) := by decide +kernel
theorem dX4_fits_30 : decode cX4_fits 30 = .ok (.iconst 0, 1) := by decide +kernel
theorem dX4_fits_31 : decode cX4_fits 31 = .ok (.ireturn, 1) := by decide +kernel
theorem dX4_goesOn_0 : decode cX4_goesOn 0 = .ok (.aload_n 0, 1) := by decide +kernel
theorem dX4_goesOn_1 : decode cX4_goesOn 1 = .ok (.iload_n 1, 1) := by decide +kernel
theorem dX4_goesOn_2 : decode cX4_goesOn 2 = .ok (.invokevirtual 62, 3) := by decide +kernel
theorem dX4_goesOn_5 : decode cX4_goesOn 5 = .ok (.iconst 1, 1) := by decide +kernel
theorem dX4_goesOn_6 : decode cX4_goesOn 6 = .ok (.aload_n 0, 1) := by decide +kernel
theorem dX4_goesOn_7 : decode cX4_goesOn 7 = .ok (.getfield 12, 3) := by decide +kernel
theorem dX4_goesOn_10 : decode cX4_goesOn 10 = .ok (.invokevirtual 26, 3) := by decide +kernel
theorem dX4_goesOn_13 : decode cX4_goesOn 13 = .ok (.ishl, 1) := by decide +kernel
theorem dX4_goesOn_14 : decode cX4_goesOn 14 = .ok (.iconst 1, 1) := by decide +kernel
theorem dX4_goesOn_15 : decode cX4_goesOn 15 = .ok (.isub, 1) := by decide +kernel
theorem dX4_goesOn_16 : decode cX4_goesOn 16 = .ok (.iand, 1) := by decide +kernel
theorem dX4_goesOn_17 : decode cX4_goesOn 17 = .ok (.ifCond .eq 7, 3) := by decide +kernel
theorem dX4_goesOn_20 : decode cX4_goesOn 20 = .ok (.iconst 1, 1) := by decide +kernel
theorem dX4_goesOn_21 : decode cX4_goesOn 21 = .ok (.goto 4, 3) := by decide +kernel
theorem dX4_goesOn_24 : decode cX4_goesOn 24 = .ok (.iconst 0, 1) := by decide +kernel
theorem dX4_goesOn_25 : decode cX4_goesOn 25 = .ok (.ireturn, 1) := by decide +kernel
theorem dX4_statesAt_0 : decode cX4_statesAt 0 = .ok (.iload_n 1, 1) := by decide +kernel
theorem dX4_statesAt_1 : decode cX4_statesAt 1 = .ok (.ifCond .lt 21, 3) := by decide +kernel
theorem dX4_statesAt_4 : decode cX4_statesAt 4 = .ok (.iload_n 1, 1) := by decide +kernel
theorem dX4_statesAt_5 : decode cX4_statesAt 5 = .ok (.aload_n 0, 1) := by decide +kernel
theorem dX4_statesAt_6 : decode cX4_statesAt 6 = .ok (.getfield 18, 3) := by decide +kernel
theorem dX4_statesAt_9 : decode cX4_statesAt 9 = .ok (.arraylength, 1) := by decide +kernel
theorem dX4_statesAt_10 : decode cX4_statesAt 10 = .ok (.if_icmp .ge 12, 3) := by decide +kernel
theorem dX4_statesAt_13 : decode cX4_statesAt 13 = .ok (.aload_n 0, 1) := by decide +kernel
theorem dX4_statesAt_14 : decode cX4_statesAt 14 = .ok (.getfield 18, 3) := by decide +kernel
theorem dX4_statesAt_17 : decode cX4_statesAt 17 = .ok (.iload_n 1, 1) := by decide +kernel
theorem dX4_statesAt_18 : decode cX4_statesAt 18 = .ok (.iaload, 1) := by decide +kernel
theorem dX4_statesAt_19 : decode cX4_statesAt 19 = .ok (.goto 4, 3) := by decide +kernel
theorem dX4_statesAt_22 : decode cX4_statesAt 22 = .ok (.iconst 0, 1) := by decide +kernel
theorem dX4_statesAt_23 : decode cX4_statesAt 23 = .ok (.ireturn, 1) := by decide +kernel
theorem dX5_init_0 : decode cX5_init 0 = .ok (.aload_n 0, 1) := by decide +kernel
theorem dX5_init_1 : decode cX5_init 1 = .ok (.invokespecial 3, 3) := by decide +kernel
theorem dX5_init_4 : decode cX5_init 4 = .ok (.aload_n 0, 1) := by decide +kernel
theorem dX5_init_5 : decode cX5_init 5 = .ok (.iconst (-1), 1) := by decide +kernel
theorem dX5_init_6 : decode cX5_init 6 = .ok (.putfield 9, 3) := by decide +kernel
theorem dX5_init_9 : decode cX5_init 9 = .ok (.aload_n 0, 1) := by decide +kernel
theorem dX5_init_10 : decode cX5_init 10 = .ok (.aload_n 1, 1) := by decide +kernel
theorem dX5_init_11 : decode cX5_init 11 = .ok (.putfield 15, 3) := by decide +kernel
theorem dX5_init_14 : decode cX5_init 14 = .ok (.aload_n 0, 1) := by decide +kernel
theorem dX5_init_15 : decode cX5_init 15 = .ok (.new 19, 3) := by decide +kernel
theorem dX5_init_18 : decode cX5_init 18 = .ok (.dup, 1) := by decide +kernel
theorem dX5_init_19 : decode cX5_init 19 = .ok (.iload_n 2, 1) := by decide +kernel
theorem dX5_init_20 : decode cX5_init 20 = .ok (.invokespecial 21, 3) := by decide +kernel
theorem dX5_init_23 : decode cX5_init 23 = .ok (.putfield 24, 3) := by decide +kernel
theorem dX5_init_26 : decode cX5_init 26 = .ok (.return_, 1) := by decide +kernel
theorem dX5_read_0 : decode cX5_read 0 = .ok (.iconst 1, 1) := by decide +kernel
theorem dX5_read_1 : decode cX5_read 1 = .ok (.istore_n 1, 1) := by decide +kernel
theorem dX5_read_2 : decode cX5_read 2 = .ok (.iconst 0, 1) := by decide +kernel
theorem dX5_read_3 : decode cX5_read 3 = .ok (.istore_n 2, 1) := by decide +kernel
theorem dX5_read_4 : decode cX5_read 4 = .ok (.iload_n 2, 1) := by decide +kernel
theorem dX5_read_5 : decode cX5_read 5 = .ok (.bipush 6, 2) := by decide +kernel
theorem dX5_read_7 : decode cX5_read 7 = .ok (.if_icmp .gt 38, 3) := by decide +kernel
theorem dX5_read_10 : decode cX5_read 10 = .ok (.iload_n 1, 1) := by decide +kernel
theorem dX5_read_11 : decode cX5_read 11 = .ok (.ifCond .eq 34, 3) := by decide +kernel
theorem dX5_read_14 : decode cX5_read 14 = .ok (.aload_n 0, 1) := by decide +kernel
theorem dX5_read_15 : decode cX5_read 15 = .ok (.invokevirtual 28, 3) := by decide +kernel
theorem dX5_read_18 : decode cX5_read 18 = .ok (.aload_n 0, 1) := by decide +kernel
theorem dX5_read_19 : decode cX5_read 19 = .ok (.getfield 9, 3) := by decide +kernel
theorem dX5_read_22 : decode cX5_read 22 = .ok (.iconst (-1), 1) := by decide +kernel
theorem dX5_read_23 : decode cX5_read 23 = .ok (.if_icmp .ne 14, 3) := by decide +kernel
theorem dX5_read_26 : decode cX5_read 26 = .ok (.aload_n 0, 1) := by decide +kernel
theorem dX5_read_27 : decode cX5_read 27 = .ok (.invokevirtual 31, 3) := by decide +kernel
theorem dX5_read_30 : decode cX5_read 30 = .ok (.ifCond .eq 7, 3) := by decide +kernel
theorem dX5_read_33 : decode cX5_read 33 = .ok (.iconst 1, 1) := by decide +kernel
theorem dX5_read_34 : decode cX5_read 34 = .ok (.goto 4, 3) := by decide +kernel
theorem dX5_read_37 : decode cX5_read 37 = .ok (.iconst 0, 1) := by decide +kernel
theorem dX5_read_38 : decode cX5_read 38 = .ok (.istore_n 1, 1) := by decide +kernel
theorem dX5_read_39 : decode cX5_read 39 = .ok (.iinc 2 1, 3) := by decide +kernel
theorem dX5_read_42 : decode cX5_read 42 = .ok (.goto (-38), 3) := by decide +kernel
theorem dX5_read_45 : decode cX5_read 45 = .ok (.return_, 1) := by decide +kernel
theorem dX5_passSlash_0 : decode cX5_passSlash 0 = .ok (.aload_n 0, 1) := by decide +kernel
theorem dX5_passSlash_1 : decode cX5_passSlash 1 = .ok (.getfield 35, 3) := by decide +kernel
theorem dX5_passSlash_4 : decode cX5_passSlash 4 = .ok (.aload_n 0, 1) := by decide +kernel
theorem dX5_passSlash_5 : decode cX5_passSlash 5 = .ok (.getfield 15, 3) := by decide +kernel
theorem dX5_passSlash_8 : decode cX5_passSlash 8 = .ok (.invokevirtual 38, 3) := by decide +kernel
theorem dX5_passSlash_11 : decode cX5_passSlash 11 = .ok (.if_icmp .lt 5, 3) := by decide +kernel
theorem dX5_passSlash_14 : decode cX5_passSlash 14 = .ok (.iconst 0, 1) := by decide +kernel
theorem dX5_passSlash_15 : decode cX5_passSlash 15 = .ok (.ireturn, 1) := by decide +kernel
theorem dX5_passSlash_16 : decode cX5_passSlash 16 = .ok (.aload_n 0, 1) := by decide +kernel
theorem dX5_passSlash_17 : decode cX5_passSlash 17 = .ok (.dup, 1) := by decide +kernel
theorem dX5_passSlash_18 : decode cX5_passSlash 18 = .ok (.getfield 35, 3) := by decide +kernel
theorem dX5_passSlash_21 : decode cX5_passSlash 21 = .ok (.iconst 1, 1) := by decide +kernel
theorem dX5_passSlash_22 : decode cX5_passSlash 22 = .ok (.iadd, 1) := by decide +kernel
theorem dX5_passSlash_23 : decode cX5_passSlash 23 = .ok (.putfield 35, 3) := by decide +kernel
theorem dX5_passSlash_26 : decode cX5_passSlash 26 = .ok (.aload_n 0, 1) := by decide +kernel
theorem dX5_passSlash_27 : decode cX5_passSlash 27 = .ok (.getfield 24, 3) := by decide +kernel
theorem dX5_passSlash_30 : decode cX5_passSlash 30 = .ok (.aload_n 0, 1) := by decide +kernel
theorem dX5_passSlash_31 : decode cX5_passSlash 31 = .ok (.getfield 35, 3) := by decide +kernel
theorem dX5_passSlash_34 : decode cX5_passSlash 34 = .ok (.aload_n 0, 1) := by decide +kernel
theorem dX5_passSlash_35 : decode cX5_passSlash 35 = .ok (.getfield 15, 3) := by decide +kernel
theorem dX5_passSlash_38 : decode cX5_passSlash 38 = .ok (.invokevirtual 38, 3) := by decide +kernel
theorem dX5_passSlash_41 : decode cX5_passSlash 41 = .ok (.if_icmp .lt 7, 3) := by decide +kernel
theorem dX5_passSlash_44 : decode cX5_passSlash 44 = .ok (.iconst 1, 1) := by decide +kernel
theorem dX5_passSlash_45 : decode cX5_passSlash 45 = .ok (.goto 4, 3) := by decide +kernel
theorem dX5_passSlash_48 : decode cX5_passSlash 48 = .ok (.iconst 0, 1) := by decide +kernel
theorem dX5_passSlash_49 : decode cX5_passSlash 49 = .ok (.putfield 44, 3) := by decide +kernel
theorem dX5_passSlash_52 : decode cX5_passSlash 52 = .ok (.aload_n 0, 1) := by decide +kernel
theorem dX5_passSlash_53 : decode cX5_passSlash 53 = .ok (.getfield 24, 3) := by decide +kernel
theorem dX5_passSlash_56 : decode cX5_passSlash 56 = .ok (.getfield 44, 3) := by decide +kernel
theorem dX5_passSlash_59 : decode cX5_passSlash 59 = .ok (.ifCond .ne 7, 3) := by decide +kernel
theorem dX5_passSlash_62 : decode cX5_passSlash 62 = .ok (.iconst 1, 1) := by decide +kernel
theorem dX5_passSlash_63 : decode cX5_passSlash 63 = .ok (.goto 4, 3) := by decide +kernel
theorem dX5_passSlash_66 : decode cX5_passSlash 66 = .ok (.iconst 0, 1) := by decide +kernel
theorem dX5_passSlash_67 : decode cX5_passSlash 67 = .ok (.ireturn, 1) := by decide +kernel
theorem dX5_readPiece_0 : decode cX5_readPiece 0 = .ok (.aload_n 0, 1) := by decide +kernel
theorem dX5_readPiece_1 : decode cX5_readPiece 1 = .ok (.getfield 24, 3) := by decide +kernel
theorem dX5_readPiece_4 : decode cX5_readPiece 4 = .ok (.invokevirtual 48, 3) := by decide +kernel
theorem dX5_readPiece_7 : decode cX5_readPiece 7 = .ok (.ifCond .eq 14, 3) := by decide +kernel
theorem dX5_readPiece_10 : decode cX5_readPiece 10 = .ok (.aload_n 0, 1) := by decide +kernel
theorem dX5_readPiece_11 : decode cX5_readPiece 11 = .ok (.aload_n 0, 1) := by decide +kernel
theorem dX5_readPiece_12 : decode cX5_readPiece 12 = .ok (.getfield 35, 3) := by decide +kernel
theorem dX5_readPiece_15 : decode cX5_readPiece 15 = .ok (.putfield 9, 3) := by decide +kernel
theorem dX5_readPiece_18 : decode cX5_readPiece 18 = .ok (.goto 64, 3) := by decide +kernel
theorem dX5_readPiece_21 : decode cX5_readPiece 21 = .ok (.aload_n 0, 1) := by decide +kernel
theorem dX5_readPiece_22 : decode cX5_readPiece 22 = .ok (.getfield 35, 3) := by decide +kernel
theorem dX5_readPiece_25 : decode cX5_readPiece 25 = .ok (.iconst 1, 1) := by decide +kernel
theorem dX5_readPiece_26 : decode cX5_readPiece 26 = .ok (.iadd, 1) := by decide +kernel
theorem dX5_readPiece_27 : decode cX5_readPiece 27 = .ok (.aload_n 0, 1) := by decide +kernel
theorem dX5_readPiece_28 : decode cX5_readPiece 28 = .ok (.getfield 15, 3) := by decide +kernel
theorem dX5_readPiece_31 : decode cX5_readPiece 31 = .ok (.invokevirtual 38, 3) := by decide +kernel
theorem dX5_readPiece_34 : decode cX5_readPiece 34 = .ok (.if_icmp .ge 44, 3) := by decide +kernel
theorem dX5_readPiece_37 : decode cX5_readPiece 37 = .ok (.aload_n 0, 1) := by decide +kernel
theorem dX5_readPiece_38 : decode cX5_readPiece 38 = .ok (.getfield 15, 3) := by decide +kernel
theorem dX5_readPiece_41 : decode cX5_readPiece 41 = .ok (.aload_n 0, 1) := by decide +kernel
theorem dX5_readPiece_42 : decode cX5_readPiece 42 = .ok (.getfield 35, 3) := by decide +kernel
theorem dX5_readPiece_45 : decode cX5_readPiece 45 = .ok (.invokevirtual 51, 3) := by decide +kernel
theorem dX5_readPiece_48 : decode cX5_readPiece 48 = .ok (.bipush 42, 2) := by decide +kernel
theorem dX5_readPiece_50 : decode cX5_readPiece 50 = .ok (.if_icmp .ne 28, 3) := by decide +kernel
theorem dX5_readPiece_53 : decode cX5_readPiece 53 = .ok (.aload_n 0, 1) := by decide +kernel
theorem dX5_readPiece_54 : decode cX5_readPiece 54 = .ok (.getfield 15, 3) := by decide +kernel
theorem dX5_readPiece_57 : decode cX5_readPiece 57 = .ok (.aload_n 0, 1) := by decide +kernel
theorem dX5_readPiece_58 : decode cX5_readPiece 58 = .ok (.getfield 35, 3) := by decide +kernel
theorem dX5_readPiece_61 : decode cX5_readPiece 61 = .ok (.iconst 1, 1) := by decide +kernel
theorem dX5_readPiece_62 : decode cX5_readPiece 62 = .ok (.iadd, 1) := by decide +kernel
theorem dX5_readPiece_63 : decode cX5_readPiece 63 = .ok (.invokevirtual 51, 3) := by decide +kernel
theorem dX5_readPiece_66 : decode cX5_readPiece 66 = .ok (.bipush 42, 2) := by decide +kernel
theorem dX5_readPiece_68 : decode cX5_readPiece 68 = .ok (.if_icmp .ne 10, 3) := by decide +kernel
theorem dX5_readPiece_71 : decode cX5_readPiece 71 = .ok (.aload_n 0, 1) := by decide +kernel
theorem dX5_readPiece_72 : decode cX5_readPiece 72 = .ok (.invokevirtual 55, 3) := by decide +kernel
theorem dX5_readPiece_75 : decode cX5_readPiece 75 = .ok (.goto 7, 3) := by decide +kernel
theorem dX5_readPiece_78 : decode cX5_readPiece 78 = .ok (.aload_n 0, 1) := by decide +kernel
theorem dX5_readPiece_79 : decode cX5_readPiece 79 = .ok (.invokevirtual 58, 3) := by decide +kernel
theorem dX5_readPiece_82 : decode cX5_readPiece 82 = .ok (.return_, 1) := by decide +kernel
theorem dX5_readDeepPiece_0 : decode cX5_readDeepPiece 0 = .ok (.aload_n 0, 1) := by decide +kernel
theorem dX5_readDeepPiece_1 : decode cX5_readDeepPiece 1 = .ok (.getfield 24, 3) := by decide +kernel
theorem dX5_readDeepPiece_4 : decode cX5_readDeepPiece 4 = .ok (.invokevirtual 61, 3) := by decide +kernel
theorem dX5_readDeepPiece_7 : decode cX5_readDeepPiece 7 = .ok (.ifCond .eq 12, 3) := by decide +kernel
theorem dX5_readDeepPiece_10 : decode cX5_readDeepPiece 10 = .ok (.aload_n 0, 1) := by decide +kernel
theorem dX5_readDeepPiece_11 : decode cX5_readDeepPiece 11 = .ok (.aload_n 0, 1) := by decide +kernel
theorem dX5_readDeepPiece_12 : decode cX5_readDeepPiece 12 = .ok (.getfield 35, 3) := by decide +kernel
theorem dX5_readDeepPiece_15 : decode cX5_readDeepPiece 15 = .ok (.putfield 9, 3) := by decide +kernel
theorem dX5_readDeepPiece_18 : decode cX5_readDeepPiece 18 = .ok (.return_, 1) := by decide +kernel
theorem dX5_readDeepPiece_19 : decode cX5_readDeepPiece 19 = .ok (.aload_n 0, 1) := by decide +kernel
theorem dX5_readDeepPiece_20 : decode cX5_readDeepPiece 20 = .ok (.getfield 24, 3) := by decide +kernel
theorem dX5_readDeepPiece_23 : decode cX5_readDeepPiece 23 = .ok (.new 64, 3) := by decide +kernel
theorem dX5_readDeepPiece_26 : decode cX5_readDeepPiece 26 = .ok (.dup, 1) := by decide +kernel
theorem dX5_readDeepPiece_27 : decode cX5_readDeepPiece 27 = .ok (.iconst 1, 1) := by decide +kernel
theorem dX5_readDeepPiece_28 : decode cX5_readDeepPiece 28 = .ok (.invokespecial 66, 3) := by decide +kernel
theorem dX5_readDeepPiece_31 : decode cX5_readDeepPiece 31 = .ok (.invokevirtual 67, 3) := by decide +kernel
theorem dX5_readDeepPiece_34 : decode cX5_readDeepPiece 34 = .ok (.aload_n 0, 1) := by decide +kernel
theorem dX5_readDeepPiece_35 : decode cX5_readDeepPiece 35 = .ok (.dup, 1) := by decide +kernel
theorem dX5_readDeepPiece_36 : decode cX5_readDeepPiece 36 = .ok (.getfield 35, 3) := by decide +kernel
theorem dX5_readDeepPiece_39 : decode cX5_readDeepPiece 39 = .ok (.iconst 2, 1) := by decide +kernel
theorem dX5_readDeepPiece_40 : decode cX5_readDeepPiece 40 = .ok (.iadd, 1) := by decide +kernel
theorem dX5_readDeepPiece_41 : decode cX5_readDeepPiece 41 = .ok (.putfield 35, 3) := by decide +kernel
theorem dX5_readDeepPiece_44 : decode cX5_readDeepPiece 44 = .ok (.aload_n 0, 1) := by decide +kernel
theorem dX5_readDeepPiece_45 : decode cX5_readDeepPiece 45 = .ok (.invokevirtual 71, 3) := by decide +kernel
theorem dX5_readDeepPiece_48 : decode cX5_readDeepPiece 48 = .ok (.ifCond .eq 11, 3) := by decide +kernel
theorem dX5_readDeepPiece_51 : decode cX5_readDeepPiece 51 = .ok (.aload_n 0, 1) := by decide +kernel
theorem dX5_readDeepPiece_52 : decode cX5_readDeepPiece 52 = .ok (.aload_n 0, 1) := by decide +kernel
theorem dX5_readDeepPiece_53 : decode cX5_readDeepPiece 53 = .ok (.getfield 35, 3) := by decide +kernel
theorem dX5_readDeepPiece_56 : decode cX5_readDeepPiece 56 = .ok (.putfield 9, 3) := by decide +kernel
theorem dX5_readDeepPiece_59 : decode cX5_readDeepPiece 59 = .ok (.return_, 1) := by decide +kernel
theorem dX5_readPlainPiece_0 : decode cX5_readPlainPiece 0 = .ok (.new 64, 3) := by decide +kernel
theorem dX5_readPlainPiece_3 : decode cX5_readPlainPiece 3 = .ok (.dup, 1) := by decide +kernel
theorem dX5_readPlainPiece_4 : decode cX5_readPlainPiece 4 = .ok (.iconst 0, 1) := by decide +kernel
theorem dX5_readPlainPiece_5 : decode cX5_readPlainPiece 5 = .ok (.invokespecial 66, 3) := by decide +kernel
theorem dX5_readPlainPiece_8 : decode cX5_readPlainPiece 8 = .ok (.astore_n 1, 1) := by decide +kernel
theorem dX5_readPlainPiece_9 : decode cX5_readPlainPiece 9 = .ok (.aload_n 0, 1) := by decide +kernel
theorem dX5_readPlainPiece_10 : decode cX5_readPlainPiece 10 = .ok (.getfield 35, 3) := by decide +kernel
theorem dX5_readPlainPiece_13 : decode cX5_readPlainPiece 13 = .ok (.istore_n 2, 1) := by decide +kernel
theorem dX5_readPlainPiece_14 : decode cX5_readPlainPiece 14 = .ok (.iconst 0, 1) := by decide +kernel
theorem dX5_readPlainPiece_15 : decode cX5_readPlainPiece 15 = .ok (.istore_n 3, 1) := by decide +kernel
theorem dX5_readPlainPiece_16 : decode cX5_readPlainPiece 16 = .ok (.iload_n 3, 1) := by decide +kernel
theorem dX5_readPlainPiece_17 : decode cX5_readPlainPiece 17 = .ok (.bipush 8, 2) := by decide +kernel
theorem dX5_readPlainPiece_19 : decode cX5_readPlainPiece 19 = .ok (.if_icmp .gt 29, 3) := by decide +kernel
theorem dX5_readPlainPiece_22 : decode cX5_readPlainPiece 22 = .ok (.aload_n 0, 1) := by decide +kernel
theorem dX5_readPlainPiece_23 : decode cX5_readPlainPiece 23 = .ok (.getfield 9, 3) := by decide +kernel
theorem dX5_readPlainPiece_26 : decode cX5_readPlainPiece 26 = .ok (.iconst (-1), 1) := by decide +kernel
theorem dX5_readPlainPiece_27 : decode cX5_readPlainPiece 27 = .ok (.if_icmp .ne 21, 3) := by decide +kernel
theorem dX5_readPlainPiece_30 : decode cX5_readPlainPiece 30 = .ok (.aload_n 0, 1) := by decide +kernel
theorem dX5_readPlainPiece_31 : decode cX5_readPlainPiece 31 = .ok (.invokevirtual 71, 3) := by decide +kernel
theorem dX5_readPlainPiece_34 : decode cX5_readPlainPiece 34 = .ok (.ifCond .eq 14, 3) := by decide +kernel
theorem dX5_readPlainPiece_37 : decode cX5_readPlainPiece 37 = .ok (.aload_n 0, 1) := by decide +kernel
theorem dX5_readPlainPiece_38 : decode cX5_readPlainPiece 38 = .ok (.aload_n 1, 1) := by decide +kernel
theorem dX5_readPlainPiece_39 : decode cX5_readPlainPiece 39 = .ok (.invokevirtual 74, 3) := by decide +kernel
theorem dX5_readPlainPiece_42 : decode cX5_readPlainPiece 42 = .ok (.iinc 3 1, 3) := by decide +kernel
theorem dX5_readPlainPiece_45 : decode cX5_readPlainPiece 45 = .ok (.goto (-29), 3) := by decide +kernel
theorem dX5_readPlainPiece_48 : decode cX5_readPlainPiece 48 = .ok (.aload_n 0, 1) := by decide +kernel
theorem dX5_readPlainPiece_49 : decode cX5_readPlainPiece 49 = .ok (.getfield 9, 3) := by decide +kernel
theorem dX5_readPlainPiece_52 : decode cX5_readPlainPiece 52 = .ok (.iconst (-1), 1) := by decide +kernel
theorem dX5_readPlainPiece_53 : decode cX5_readPlainPiece 53 = .ok (.if_icmp .eq 4, 3) := by decide +kernel
theorem dX5_readPlainPiece_56 : decode cX5_readPlainPiece 56 = .ok (.return_, 1) := by decide +kernel
theorem dX5_readPlainPiece_57 : decode cX5_readPlainPiece 57 = .ok (.aload_n 0, 1) := by decide +kernel
theorem dX5_readPlainPiece_58 : decode cX5_readPlainPiece 58 = .ok (.getfield 35, 3) := by decide +kernel
theorem dX5_readPlainPiece_61 : decode cX5_readPlainPiece 61 = .ok (.iload_n 2, 1) := by decide +kernel
theorem dX5_readPlainPiece_62 : decode cX5_readPlainPiece 62 = .ok (.if_icmp .eq 21, 3) := by decide +kernel
theorem dX5_readPlainPiece_65 : decode cX5_readPlainPiece 65 = .ok (.aload_n 0, 1) := by decide +kernel
theorem dX5_readPlainPiece_66 : decode cX5_readPlainPiece 66 = .ok (.getfield 15, 3) := by decide +kernel
theorem dX5_readPlainPiece_69 : decode cX5_readPlainPiece 69 = .ok (.iload_n 2, 1) := by decide +kernel
theorem dX5_readPlainPiece_70 : decode cX5_readPlainPiece 70 = .ok (.aload_n 0, 1) := by decide +kernel
theorem dX5_readPlainPiece_71 : decode cX5_readPlainPiece 71 = .ok (.getfield 35, 3) := by decide +kernel
theorem dX5_readPlainPiece_74 : decode cX5_readPlainPiece 74 = .ok (.invokevirtual 77, 3) := by decide +kernel
theorem dX5_readPlainPiece_77 : decode cX5_readPlainPiece 77 = .ok (.invokestatic 81, 3) := by decide +kernel
theorem dX5_readPlainPiece_80 : decode cX5_readPlainPiece 80 = .ok (.ifCond .eq 8, 3) := by decide +kernel
theorem dX5_readPlainPiece_83 : decode cX5_readPlainPiece 83 = .ok (.aload_n 0, 1) := by decide +kernel
theorem dX5_readPlainPiece_84 : decode cX5_readPlainPiece 84 = .ok (.iload_n 2, 1) := by decide +kernel
theorem dX5_readPlainPiece_85 : decode cX5_readPlainPiece 85 = .ok (.putfield 9, 3) := by decide +kernel
theorem dX5_readPlainPiece_88 : decode cX5_readPlainPiece 88 = .ok (.aload_n 0, 1) := by decide +kernel
theorem dX5_readPlainPiece_89 : decode cX5_readPlainPiece 89 = .ok (.getfield 24, 3) := by decide +kernel
theorem dX5_readPlainPiece_92 : decode cX5_readPlainPiece 92 = .ok (.aload_n 1, 1) := by decide +kernel
theorem dX5_readPlainPiece_93 : decode cX5_readPlainPiece 93 = .ok (.invokevirtual 67, 3) := by decide +kernel
theorem dX5_readPlainPiece_96 : decode cX5_readPlainPiece 96 = .ok (.return_, 1) := by decide +kernel
theorem dX5_isInPiece_0 : decode cX5_isInPiece 0 = .ok (.aload_n 0, 1) := by decide +kernel
theorem dX5_isInPiece_1 : decode cX5_isInPiece 1 = .ok (.getfield 35, 3) := by decide +kernel
theorem dX5_isInPiece_4 : decode cX5_isInPiece 4 = .ok (.aload_n 0, 1) := by decide +kernel
theorem dX5_isInPiece_5 : decode cX5_isInPiece 5 = .ok (.getfield 15, 3) := by decide +kernel
theorem dX5_isInPiece_8 : decode cX5_isInPiece 8 = .ok (.invokevirtual 38, 3) := by decide +kernel
theorem dX5_isInPiece_11 : decode cX5_isInPiece 11 = .ok (.if_icmp .ge 23, 3) := by decide +kernel
theorem dX5_isInPiece_14 : decode cX5_isInPiece 14 = .ok (.aload_n 0, 1) := by decide +kernel
theorem dX5_isInPiece_15 : decode cX5_isInPiece 15 = .ok (.getfield 15, 3) := by decide +kernel
theorem dX5_isInPiece_18 : decode cX5_isInPiece 18 = .ok (.aload_n 0, 1) := by decide +kernel
theorem dX5_isInPiece_19 : decode cX5_isInPiece 19 = .ok (.getfield 35, 3) := by decide +kernel
theorem dX5_isInPiece_22 : decode cX5_isInPiece 22 = .ok (.invokevirtual 51, 3) := by decide +kernel
theorem dX5_isInPiece_25 : decode cX5_isInPiece 25 = .ok (.bipush 47, 2) := by decide +kernel
theorem dX5_isInPiece_27 : decode cX5_isInPiece 27 = .ok (.if_icmp .eq 7, 3) := by decide +kernel
theorem dX5_isInPiece_30 : decode cX5_isInPiece 30 = .ok (.iconst 1, 1) := by decide +kernel
theorem dX5_isInPiece_31 : decode cX5_isInPiece 31 = .ok (.goto 4, 3) := by decide +kernel
theorem dX5_isInPiece_34 : decode cX5_isInPiece 34 = .ok (.iconst 0, 1) := by decide +kernel
theorem dX5_isInPiece_35 : decode cX5_isInPiece 35 = .ok (.ireturn, 1) := by decide +kernel
theorem dX5_readPart_0 : decode cX5_readPart 0 = .ok (.aload_n 0, 1) := by decide +kernel
theorem dX5_readPart_1 : decode cX5_readPart 1 = .ok (.getfield 15, 3) := by decide +kernel
theorem dX5_readPart_4 : decode cX5_readPart 4 = .ok (.aload_n 0, 1) := by decide +kernel
theorem dX5_readPart_5 : decode cX5_readPart 5 = .ok (.getfield 35, 3) := by decide +kernel
theorem dX5_readPart_8 : decode cX5_readPart 8 = .ok (.invokevirtual 51, 3) := by decide +kernel
theorem dX5_readPart_11 : decode cX5_readPart 11 = .ok (.istore_n 2, 1) := by decide +kernel
theorem dX5_readPart_12 : decode cX5_readPart 12 = .ok (.aload_n 1, 1) := by decide +kernel
theorem dX5_readPart_13 : decode cX5_readPart 13 = .ok (.invokevirtual 85, 3) := by decide +kernel
theorem dX5_readPart_16 : decode cX5_readPart 16 = .ok (.ifCond .eq 14, 3) := by decide +kernel
theorem dX5_readPart_19 : decode cX5_readPart 19 = .ok (.aload_n 0, 1) := by decide +kernel
theorem dX5_readPart_20 : decode cX5_readPart 20 = .ok (.aload_n 0, 1) := by decide +kernel
theorem dX5_readPart_21 : decode cX5_readPart 21 = .ok (.getfield 35, 3) := by decide +kernel
theorem dX5_readPart_24 : decode cX5_readPart 24 = .ok (.putfield 9, 3) := by decide +kernel
theorem dX5_readPart_27 : decode cX5_readPart 27 = .ok (.goto 89, 3) := by decide +kernel
theorem dX5_readPart_30 : decode cX5_readPart 30 = .ok (.iload_n 2, 1) := by decide +kernel
theorem dX5_readPart_31 : decode cX5_readPart 31 = .ok (.bipush 91, 2) := by decide +kernel
theorem dX5_readPart_33 : decode cX5_readPart 33 = .ok (.if_icmp .ne 11, 3) := by decide +kernel
theorem dX5_readPart_36 : decode cX5_readPart 36 = .ok (.aload_n 0, 1) := by decide +kernel
theorem dX5_readPart_37 : decode cX5_readPart 37 = .ok (.aload_n 1, 1) := by decide +kernel
theorem dX5_readPart_38 : decode cX5_readPart 38 = .ok (.invokevirtual 86, 3) := by decide +kernel
theorem dX5_readPart_41 : decode cX5_readPart 41 = .ok (.goto 75, 3) := by decide +kernel
theorem dX5_readPart_44 : decode cX5_readPart 44 = .ok (.iload_n 2, 1) := by decide +kernel
theorem dX5_readPart_45 : decode cX5_readPart 45 = .ok (.bipush 42, 2) := by decide +kernel
theorem dX5_readPart_47 : decode cX5_readPart 47 = .ok (.if_icmp .ne 20, 3) := by decide +kernel
theorem dX5_readPart_50 : decode cX5_readPart 50 = .ok (.aload_n 1, 1) := by decide +kernel
theorem dX5_readPart_51 : decode cX5_readPart 51 = .ok (.invokevirtual 89, 3) := by decide +kernel
theorem dX5_readPart_54 : decode cX5_readPart 54 = .ok (.aload_n 0, 1) := by decide +kernel
theorem dX5_readPart_55 : decode cX5_readPart 55 = .ok (.dup, 1) := by decide +kernel
theorem dX5_readPart_56 : decode cX5_readPart 56 = .ok (.getfield 35, 3) := by decide +kernel
theorem dX5_readPart_59 : decode cX5_readPart 59 = .ok (.iconst 1, 1) := by decide +kernel
theorem dX5_readPart_60 : decode cX5_readPart 60 = .ok (.iadd, 1) := by decide +kernel
theorem dX5_readPart_61 : decode cX5_readPart 61 = .ok (.putfield 35, 3) := by decide +kernel
theorem dX5_readPart_64 : decode cX5_readPart 64 = .ok (.goto 52, 3) := by decide +kernel
theorem dX5_readPart_67 : decode cX5_readPart 67 = .ok (.iload_n 2, 1) := by decide +kernel
theorem dX5_readPart_68 : decode cX5_readPart 68 = .ok (.invokestatic 92, 3) := by decide +kernel
theorem dX5_readPart_71 : decode cX5_readPart 71 = .ok (.ifCond .eq 37, 3) := by decide +kernel
theorem dX5_readPart_74 : decode cX5_readPart 74 = .ok (.aload_n 1, 1) := by decide +kernel
theorem dX5_readPart_75 : decode cX5_readPart 75 = .ok (.aload_n 0, 1) := by decide +kernel
theorem dX5_readPart_76 : decode cX5_readPart 76 = .ok (.getfield 15, 3) := by decide +kernel
theorem dX5_readPart_79 : decode cX5_readPart 79 = .ok (.aload_n 0, 1) := by decide +kernel
theorem dX5_readPart_80 : decode cX5_readPart 80 = .ok (.getfield 35, 3) := by decide +kernel
theorem dX5_readPart_83 : decode cX5_readPart 83 = .ok (.aload_n 0, 1) := by decide +kernel
theorem dX5_readPart_84 : decode cX5_readPart 84 = .ok (.getfield 35, 3) := by decide +kernel
theorem dX5_readPart_87 : decode cX5_readPart 87 = .ok (.iconst 1, 1) := by decide +kernel
theorem dX5_readPart_88 : decode cX5_readPart 88 = .ok (.iadd, 1) := by decide +kernel
theorem dX5_readPart_89 : decode cX5_readPart 89 = .ok (.invokevirtual 77, 3) := by decide +kernel
theorem dX5_readPart_92 : decode cX5_readPart 92 = .ok (.invokevirtual 96, 3) := by decide +kernel
theorem dX5_readPart_95 : decode cX5_readPart 95 = .ok (.aload_n 0, 1) := by decide +kernel
theorem dX5_readPart_96 : decode cX5_readPart 96 = .ok (.dup, 1) := by decide +kernel
theorem dX5_readPart_97 : decode cX5_readPart 97 = .ok (.getfield 35, 3) := by decide +kernel
theorem dX5_readPart_100 : decode cX5_readPart 100 = .ok (.iconst 1, 1) := by decide +kernel
theorem dX5_readPart_101 : decode cX5_readPart 101 = .ok (.iadd, 1) := by decide +kernel
theorem dX5_readPart_102 : decode cX5_readPart 102 = .ok (.putfield 35, 3) := by decide +kernel
theorem dX5_readPart_105 : decode cX5_readPart 105 = .ok (.goto 11, 3) := by decide +kernel
theorem dX5_readPart_108 : decode cX5_readPart 108 = .ok (.aload_n 0, 1) := by decide +kernel
theorem dX5_readPart_109 : decode cX5_readPart 109 = .ok (.aload_n 0, 1) := by decide +kernel
theorem dX5_readPart_110 : decode cX5_readPart 110 = .ok (.getfield 35, 3) := by decide +kernel
theorem dX5_readPart_113 : decode cX5_readPart 113 = .ok (.putfield 9, 3) := by decide +kernel
theorem dX5_readPart_116 : decode cX5_readPart 116 = .ok (.return_, 1) := by decide +kernel
theorem dX5_readSet_0 : decode cX5_readSet 0 = .ok (.aload_n 0, 1) := by decide +kernel
theorem dX5_readSet_1 : decode cX5_readSet 1 = .ok (.getfield 35, 3) := by decide +kernel
theorem dX5_readSet_4 : decode cX5_readSet 4 = .ok (.iconst 1, 1) := by decide +kernel
theorem dX5_readSet_5 : decode cX5_readSet 5 = .ok (.iadd, 1) := by decide +kernel
theorem dX5_readSet_6 : decode cX5_readSet 6 = .ok (.istore_n 2, 1) := by decide +kernel
theorem dX5_readSet_7 : decode cX5_readSet 7 = .ok (.iload_n 2, 1) := by decide +kernel
theorem dX5_readSet_8 : decode cX5_readSet 8 = .ok (.istore_n 3, 1) := by decide +kernel
theorem dX5_readSet_9 : decode cX5_readSet 9 = .ok (.iload_n 3, 1) := by decide +kernel
theorem dX5_readSet_10 : decode cX5_readSet 10 = .ok (.aload_n 0, 1) := by decide +kernel
theorem dX5_readSet_11 : decode cX5_readSet 11 = .ok (.getfield 15, 3) := by decide +kernel
theorem dX5_readSet_14 : decode cX5_readSet 14 = .ok (.invokevirtual 38, 3) := by decide +kernel
theorem dX5_readSet_17 : decode cX5_readSet 17 = .ok (.if_icmp .ge 31, 3) := by decide +kernel
theorem dX5_readSet_20 : decode cX5_readSet 20 = .ok (.iload_n 3, 1) := by decide +kernel
theorem dX5_readSet_21 : decode cX5_readSet 21 = .ok (.iload_n 2, 1) := by decide +kernel
theorem dX5_readSet_22 : decode cX5_readSet 22 = .ok (.isub, 1) := by decide +kernel
theorem dX5_readSet_23 : decode cX5_readSet 23 = .ok (.bipush 6, 2) := by decide +kernel
theorem dX5_readSet_25 : decode cX5_readSet 25 = .ok (.if_icmp .ge 23, 3) := by decide +kernel
theorem dX5_readSet_28 : decode cX5_readSet 28 = .ok (.aload_n 0, 1) := by decide +kernel
theorem dX5_readSet_29 : decode cX5_readSet 29 = .ok (.getfield 15, 3) := by decide +kernel
theorem dX5_readSet_32 : decode cX5_readSet 32 = .ok (.iload_n 3, 1) := by decide +kernel
theorem dX5_readSet_33 : decode cX5_readSet 33 = .ok (.invokevirtual 51, 3) := by decide +kernel
theorem dX5_readSet_36 : decode cX5_readSet 36 = .ok (.invokestatic 92, 3) := by decide +kernel
theorem dX5_readSet_39 : decode cX5_readSet 39 = .ok (.ifCond .eq 9, 3) := by decide +kernel
theorem dX5_readSet_42 : decode cX5_readSet 42 = .ok (.iinc 3 1, 3) := by decide +kernel
theorem dX5_readSet_45 : decode cX5_readSet 45 = .ok (.goto (-36), 3) := by decide +kernel
theorem dX5_readSet_48 : decode cX5_readSet 48 = .ok (.iload_n 3, 1) := by decide +kernel
theorem dX5_readSet_49 : decode cX5_readSet 49 = .ok (.iload_n 2, 1) := by decide +kernel
theorem dX5_readSet_50 : decode cX5_readSet 50 = .ok (.if_icmp .eq 27, 3) := by decide +kernel
theorem dX5_readSet_53 : decode cX5_readSet 53 = .ok (.iload_n 3, 1) := by decide +kernel
theorem dX5_readSet_54 : decode cX5_readSet 54 = .ok (.aload_n 0, 1) := by decide +kernel
theorem dX5_readSet_55 : decode cX5_readSet 55 = .ok (.getfield 15, 3) := by decide +kernel
theorem dX5_readSet_58 : decode cX5_readSet 58 = .ok (.invokevirtual 38, 3) := by decide +kernel
theorem dX5_readSet_61 : decode cX5_readSet 61 = .ok (.if_icmp .ge 16, 3) := by decide +kernel
theorem dX5_readSet_64 : decode cX5_readSet 64 = .ok (.aload_n 0, 1) := by decide +kernel
theorem dX5_readSet_65 : decode cX5_readSet 65 = .ok (.getfield 15, 3) := by decide +kernel
theorem dX5_readSet_68 : decode cX5_readSet 68 = .ok (.iload_n 3, 1) := by decide +kernel
theorem dX5_readSet_69 : decode cX5_readSet 69 = .ok (.invokevirtual 51, 3) := by decide +kernel
theorem dX5_readSet_72 : decode cX5_readSet 72 = .ok (.bipush 93, 2) := by decide +kernel
theorem dX5_readSet_74 : decode cX5_readSet 74 = .ok (.if_icmp .eq 9, 3) := by decide +kernel
theorem dX5_readSet_77 : decode cX5_readSet 77 = .ok (.aload_n 0, 1) := by decide +kernel
theorem dX5_readSet_78 : decode cX5_readSet 78 = .ok (.iload_n 3, 1) := by decide +kernel
theorem dX5_readSet_79 : decode cX5_readSet 79 = .ok (.putfield 9, 3) := by decide +kernel
theorem dX5_readSet_82 : decode cX5_readSet 82 = .ok (.return_, 1) := by decide +kernel
theorem dX5_readSet_83 : decode cX5_readSet 83 = .ok (.aload_n 1, 1) := by decide +kernel
theorem dX5_readSet_84 : decode cX5_readSet 84 = .ok (.aload_n 0, 1) := by decide +kernel
theorem dX5_readSet_85 : decode cX5_readSet 85 = .ok (.getfield 15, 3) := by decide +kernel
theorem dX5_readSet_88 : decode cX5_readSet 88 = .ok (.iload_n 2, 1) := by decide +kernel
theorem dX5_readSet_89 : decode cX5_readSet 89 = .ok (.iload_n 3, 1) := by decide +kernel
theorem dX5_readSet_90 : decode cX5_readSet 90 = .ok (.invokevirtual 77, 3) := by decide +kernel
theorem dX5_readSet_93 : decode cX5_readSet 93 = .ok (.invokevirtual 96, 3) := by decide +kernel
theorem dX5_readSet_96 : decode cX5_readSet 96 = .ok (.aload_n 0, 1) := by decide +kernel
theorem dX5_readSet_97 : decode cX5_readSet 97 = .ok (.iload_n 3, 1) := by decide +kernel
theorem dX5_readSet_98 : decode cX5_readSet 98 = .ok (.iconst 1, 1) := by decide +kernel
theorem dX5_readSet_99 : decode cX5_readSet 99 = .ok (.iadd, 1) := by decide +kernel
theorem dX5_readSet_100 : decode cX5_readSet 100 = .ok (.putfield 35, 3) := by decide +kernel
theorem dX5_readSet_103 : decode cX5_readSet 103 = .ok (.return_, 1) := by decide +kernel
theorem dX6_init_0 : decode cX6_init 0 = .ok (.aload_n 0, 1) := by decide +kernel
theorem dX6_init_1 : decode cX6_init 1 = .ok (.invokespecial 3, 3) := by decide +kernel
theorem dX6_init_4 : decode cX6_init 4 = .ok (.aload_n 0, 1) := by decide +kernel
theorem dX6_init_5 : decode cX6_init 5 = .ok (.new 9, 3) := by decide +kernel
theorem dX6_init_8 : decode cX6_init 8 = .ok (.dup, 1) := by decide +kernel
theorem dX6_init_9 : decode cX6_init 9 = .ok (.invokespecial 11, 3) := by decide +kernel
theorem dX6_init_12 : decode cX6_init 12 = .ok (.putfield 12, 3) := by decide +kernel
theorem dX6_init_15 : decode cX6_init 15 = .ok (.aload_n 0, 1) := by decide +kernel
theorem dX6_init_16 : decode cX6_init 16 = .ok (.iload_n 1, 1) := by decide +kernel
theorem dX6_init_17 : decode cX6_init 17 = .ok (.putfield 18, 3) := by decide +kernel
theorem dX6_init_20 : decode cX6_init 20 = .ok (.return_, 1) := by decide +kernel
theorem dX6_isFull_0 : decode cX6_isFull 0 = .ok (.aload_n 0, 1) := by decide +kernel
theorem dX6_isFull_1 : decode cX6_isFull 1 = .ok (.getfield 12, 3) := by decide +kernel
theorem dX6_isFull_4 : decode cX6_isFull 4 = .ok (.invokevirtual 22, 3) := by decide +kernel
theorem dX6_isFull_7 : decode cX6_isFull 7 = .ok (.bipush 8, 2) := by decide +kernel
theorem dX6_isFull_9 : decode cX6_isFull 9 = .ok (.if_icmp .lt 7, 3) := by decide +kernel
theorem dX6_isFull_12 : decode cX6_isFull 12 = .ok (.iconst 1, 1) := by decide +kernel
theorem dX6_isFull_13 : decode cX6_isFull 13 = .ok (.goto 4, 3) := by decide +kernel
theorem dX6_isFull_16 : decode cX6_isFull 16 = .ok (.iconst 0, 1) := by decide +kernel
theorem dX6_isFull_17 : decode cX6_isFull 17 = .ok (.ireturn, 1) := by decide +kernel
theorem dX6_addStar_0 : decode cX6_addStar 0 = .ok (.aload_n 0, 1) := by decide +kernel
theorem dX6_addStar_1 : decode cX6_addStar 1 = .ok (.dup, 1) := by decide +kernel
theorem dX6_addStar_2 : decode cX6_addStar 2 = .ok (.getfield 26, 3) := by decide +kernel
theorem dX6_addStar_5 : decode cX6_addStar 5 = .ok (.iconst 1, 1) := by decide +kernel
theorem dX6_addStar_6 : decode cX6_addStar 6 = .ok (.aload_n 0, 1) := by decide +kernel
theorem dX6_addStar_7 : decode cX6_addStar 7 = .ok (.getfield 12, 3) := by decide +kernel
theorem dX6_addStar_10 : decode cX6_addStar 10 = .ok (.invokevirtual 22, 3) := by decide +kernel
theorem dX6_addStar_13 : decode cX6_addStar 13 = .ok (.ishl, 1) := by decide +kernel
theorem dX6_addStar_14 : decode cX6_addStar 14 = .ok (.ior, 1) := by decide +kernel
theorem dX6_addStar_15 : decode cX6_addStar 15 = .ok (.putfield 26, 3) := by decide +kernel
theorem dX6_addStar_18 : decode cX6_addStar 18 = .ok (.aload_n 0, 1) := by decide +kernel
theorem dX6_addStar_19 : decode cX6_addStar 19 = .ok (.getfield 12, 3) := by decide +kernel
theorem dX6_addStar_22 : decode cX6_addStar 22 = .ok (.new 30, 3) := by decide +kernel
theorem dX6_addStar_25 : decode cX6_addStar 25 = .ok (.dup, 1) := by decide +kernel
theorem dX6_addStar_26 : decode cX6_addStar 26 = .ok (.ldc 32, 2) := by decide +kernel
theorem dX6_addStar_28 : decode cX6_addStar 28 = .ok (.invokespecial 34, 3) := by decide +kernel
theorem dX6_addStar_31 : decode cX6_addStar 31 = .ok (.invokevirtual 37, 3) := by decide +kernel
theorem dX6_addStar_34 : decode cX6_addStar 34 = .ok (.pop, 1) := by decide +kernel
theorem dX6_addStar_35 : decode cX6_addStar 35 = .ok (.return_, 1) := by decide +kernel
theorem dX6_addLetters_0 : decode cX6_addLetters 0 = .ok (.aload_n 0, 1) := by decide +kernel
theorem dX6_addLetters_1 : decode cX6_addLetters 1 = .ok (.getfield 12, 3) := by decide +kernel
theorem dX6_addLetters_4 : decode cX6_addLetters 4 = .ok (.new 30, 3) := by decide +kernel
theorem dX6_addLetters_7 : decode cX6_addLetters 7 = .ok (.dup, 1) := by decide +kernel
theorem dX6_addLetters_8 : decode cX6_addLetters 8 = .ok (.aload_n 1, 1) := by decide +kernel
theorem dX6_addLetters_9 : decode cX6_addLetters 9 = .ok (.invokespecial 34, 3) := by decide +kernel
theorem dX6_addLetters_12 : decode cX6_addLetters 12 = .ok (.invokevirtual 37, 3) := by decide +kernel
theorem dX6_addLetters_15 : decode cX6_addLetters 15 = .ok (.pop, 1) := by decide +kernel
theorem dX6_addLetters_16 : decode cX6_addLetters 16 = .ok (.return_, 1) := by decide +kernel
theorem dX6_fits_0 : decode cX6_fits 0 = .ok (.iconst 1, 1) := by decide +kernel
theorem dX6_fits_1 : decode cX6_fits 1 = .ok (.aload_n 0, 1) := by decide +kernel
theorem dX6_fits_2 : decode cX6_fits 2 = .ok (.getfield 26, 3) := by decide +kernel
theorem dX6_fits_5 : decode cX6_fits 5 = .ok (.invokestatic 41, 3) := by decide +kernel
theorem dX6_fits_8 : decode cX6_fits 8 = .ok (.istore_n 2, 1) := by decide +kernel
theorem dX6_fits_9 : decode cX6_fits 9 = .ok (.iconst 0, 1) := by decide +kernel
theorem dX6_fits_10 : decode cX6_fits 10 = .ok (.istore_n 3, 1) := by decide +kernel
theorem dX6_fits_11 : decode cX6_fits 11 = .ok (.iload_n 3, 1) := by decide +kernel
theorem dX6_fits_12 : decode cX6_fits 12 = .ok (.aload_n 1, 1) := by decide +kernel
theorem dX6_fits_13 : decode cX6_fits 13 = .ok (.invokevirtual 45, 3) := by decide +kernel
theorem dX6_fits_16 : decode cX6_fits 16 = .ok (.if_icmp .ge 31, 3) := by decide +kernel
theorem dX6_fits_19 : decode cX6_fits 19 = .ok (.iload_n 2, 1) := by decide +kernel
theorem dX6_fits_20 : decode cX6_fits 20 = .ok (.ifCond .eq 27, 3) := by decide +kernel
theorem dX6_fits_23 : decode cX6_fits 23 = .ok (.aload_n 0, 1) := by decide +kernel
theorem dX6_fits_24 : decode cX6_fits 24 = .ok (.iload_n 2, 1) := by decide +kernel
theorem dX6_fits_25 : decode cX6_fits 25 = .ok (.aload_n 1, 1) := by decide +kernel
theorem dX6_fits_26 : decode cX6_fits 26 = .ok (.iload_n 3, 1) := by decide +kernel
theorem dX6_fits_27 : decode cX6_fits 27 = .ok (.invokevirtual 50, 3) := by decide +kernel
theorem dX6_fits_30 : decode cX6_fits 30 = .ok (.invokevirtual 54, 3) := by decide +kernel
theorem dX6_fits_33 : decode cX6_fits 33 = .ok (.aload_n 0, 1) := by decide +kernel
theorem dX6_fits_34 : decode cX6_fits 34 = .ok (.getfield 26, 3) := by decide +kernel
theorem dX6_fits_37 : decode cX6_fits 37 = .ok (.invokestatic 41, 3) := by decide +kernel
theorem dX6_fits_40 : decode cX6_fits 40 = .ok (.istore_n 2, 1) := by decide +kernel
theorem dX6_fits_41 : decode cX6_fits 41 = .ok (.iinc 3 1, 3) := by decide +kernel
theorem dX6_fits_44 : decode cX6_fits 44 = .ok (.goto (-33), 3) := by decide +kernel
theorem dX6_fits_47 : decode cX6_fits 47 = .ok (.iload_n 2, 1) := by decide +kernel
theorem dX6_fits_48 : decode cX6_fits 48 = .ok (.iconst 1, 1) := by decide +kernel
theorem dX6_fits_49 : decode cX6_fits 49 = .ok (.aload_n 0, 1) := by decide +kernel
theorem dX6_fits_50 : decode cX6_fits 50 = .ok (.getfield 12, 3) := by decide +kernel
theorem dX6_fits_53 : decode cX6_fits 53 = .ok (.invokevirtual 22, 3) := by decide +kernel
theorem dX6_fits_56 : decode cX6_fits 56 = .ok (.ishl, 1) := by decide +kernel
theorem dX6_fits_57 : decode cX6_fits 57 = .ok (.iand, 1) := by decide +kernel
theorem dX6_fits_58 : decode cX6_fits 58 = .ok (.ifCond .eq 7, 3) := by decide +kernel
theorem dX6_fits_61 : decode cX6_fits 61 = .ok (.iconst 1, 1) := by decide +kernel
theorem dX6_fits_62 : decode cX6_fits 62 = .ok (.goto 4, 3) := by decide +kernel
theorem dX6_fits_65 : decode cX6_fits 65 = .ok (.iconst 0, 1) := by decide +kernel
theorem dX6_fits_66 : decode cX6_fits 66 = .ok (.ireturn, 1) := by decide +kernel
theorem dX6_behind_0 : decode cX6_behind 0 = .ok (.iload_n 1, 1) := by decide +kernel
theorem dX6_behind_1 : decode cX6_behind 1 = .ok (.aload_n 0, 1) := by decide +kernel
theorem dX6_behind_2 : decode cX6_behind 2 = .ok (.getfield 26, 3) := by decide +kernel
theorem dX6_behind_5 : decode cX6_behind 5 = .ok (.iand, 1) := by decide +kernel
theorem dX6_behind_6 : decode cX6_behind 6 = .ok (.istore_n 3, 1) := by decide +kernel
theorem dX6_behind_7 : decode cX6_behind 7 = .ok (.iconst 0, 1) := by decide +kernel
theorem dX6_behind_8 : decode cX6_behind 8 = .ok (.istore 4, 2) := by decide +kernel
theorem dX6_behind_10 : decode cX6_behind 10 = .ok (.iload 4, 2) := by decide +kernel
theorem dX6_behind_12 : decode cX6_behind 12 = .ok (.aload_n 0, 1) := by decide +kernel
theorem dX6_behind_13 : decode cX6_behind 13 = .ok (.getfield 12, 3) := by decide +kernel
theorem dX6_behind_16 : decode cX6_behind 16 = .ok (.invokevirtual 22, 3) := by decide +kernel
theorem dX6_behind_19 : decode cX6_behind 19 = .ok (.if_icmp .ge 49, 3) := by decide +kernel
theorem dX6_behind_22 : decode cX6_behind 22 = .ok (.iload_n 1, 1) := by decide +kernel
theorem dX6_behind_23 : decode cX6_behind 23 = .ok (.iconst 1, 1) := by decide +kernel
theorem dX6_behind_24 : decode cX6_behind 24 = .ok (.iload 4, 2) := by decide +kernel
theorem dX6_behind_26 : decode cX6_behind 26 = .ok (.ishl, 1) := by decide +kernel
theorem dX6_behind_27 : decode cX6_behind 27 = .ok (.iand, 1) := by decide +kernel
theorem dX6_behind_28 : decode cX6_behind 28 = .ok (.ifCond .eq 34, 3) := by decide +kernel
theorem dX6_behind_31 : decode cX6_behind 31 = .ok (.aload_n 0, 1) := by decide +kernel
theorem dX6_behind_32 : decode cX6_behind 32 = .ok (.getfield 12, 3) := by decide +kernel
theorem dX6_behind_35 : decode cX6_behind 35 = .ok (.iload 4, 2) := by decide +kernel
theorem dX6_behind_37 : decode cX6_behind 37 = .ok (.invokevirtual 58, 3) := by decide +kernel
theorem dX6_behind_40 : decode cX6_behind 40 = .ok (.checkcast 30, 3) := by decide +kernel
theorem dX6_behind_43 : decode cX6_behind 43 = .ok (.getfield 62, 3) := by decide +kernel
theorem dX6_behind_46 : decode cX6_behind 46 = .ok (.iload_n 2, 1) := by decide +kernel
theorem dX6_behind_47 : decode cX6_behind 47 = .ok (.invokevirtual 66, 3) := by decide +kernel
theorem dX6_behind_50 : decode cX6_behind 50 = .ok (.ifCond .lt 12, 3) := by decide +kernel
theorem dX6_behind_53 : decode cX6_behind 53 = .ok (.iload_n 3, 1) := by decide +kernel
theorem dX6_behind_54 : decode cX6_behind 54 = .ok (.iconst 1, 1) := by decide +kernel
theorem dX6_behind_55 : decode cX6_behind 55 = .ok (.iload 4, 2) := by decide +kernel
theorem dX6_behind_57 : decode cX6_behind 57 = .ok (.iconst 1, 1) := by decide +kernel
theorem dX6_behind_58 : decode cX6_behind 58 = .ok (.iadd, 1) := by decide +kernel
theorem dX6_behind_59 : decode cX6_behind 59 = .ok (.ishl, 1) := by decide +kernel
theorem dX6_behind_60 : decode cX6_behind 60 = .ok (.ior, 1) := by decide +kernel
theorem dX6_behind_61 : decode cX6_behind 61 = .ok (.istore_n 3, 1) := by decide +kernel
theorem dX6_behind_62 : decode cX6_behind 62 = .ok (.iinc 4 1, 3) := by decide +kernel
theorem dX6_behind_65 : decode cX6_behind 65 = .ok (.goto (-55), 3) := by decide +kernel
theorem dX6_behind_68 : decode cX6_behind 68 = .ok (.iload_n 3, 1) := by decide +kernel
theorem dX6_behind_69 : decode cX6_behind 69 = .ok (.ireturn, 1) := by decide +kernel
theorem dX7_init_0 : decode cX7_init 0 = .ok (.aload_n 0, 1) := by decide +kernel
theorem dX7_init_1 : decode cX7_init 1 = .ok (.invokespecial 3, 3) := by decide +kernel
theorem dX7_init_4 : decode cX7_init 4 = .ok (.aload_n 0, 1) := by decide +kernel
theorem dX7_init_5 : decode cX7_init 5 = .ok (.new 9, 3) := by decide +kernel
theorem dX7_init_8 : decode cX7_init 8 = .ok (.dup, 1) := by decide +kernel
theorem dX7_init_9 : decode cX7_init 9 = .ok (.invokespecial 11, 3) := by decide +kernel
theorem dX7_init_12 : decode cX7_init 12 = .ok (.putfield 12, 3) := by decide +kernel
theorem dX7_init_15 : decode cX7_init 15 = .ok (.aload_n 0, 1) := by decide +kernel
theorem dX7_init_16 : decode cX7_init 16 = .ok (.iconst 1, 1) := by decide +kernel
theorem dX7_init_17 : decode cX7_init 17 = .ok (.putfield 18, 3) := by decide +kernel
theorem dX7_init_20 : decode cX7_init 20 = .ok (.aload_n 0, 1) := by decide +kernel
theorem dX7_init_21 : decode cX7_init 21 = .ok (.aload_n 1, 1) := by decide +kernel
theorem dX7_init_22 : decode cX7_init 22 = .ok (.putfield 22, 3) := by decide +kernel
theorem dX7_init_25 : decode cX7_init 25 = .ok (.aload_n 0, 1) := by decide +kernel
theorem dX7_init_26 : decode cX7_init 26 = .ok (.iload_n 2, 1) := by decide +kernel
theorem dX7_init_27 : decode cX7_init 27 = .ok (.putfield 26, 3) := by decide +kernel
theorem dX7_init_30 : decode cX7_init 30 = .ok (.return_, 1) := by decide +kernel
theorem dX7_hasRoomFor_0 : decode cX7_hasRoomFor 0 = .ok (.iconst 0, 1) := by decide +kernel
theorem dX7_hasRoomFor_1 : decode cX7_hasRoomFor 1 = .ok (.istore_n 2, 1) := by decide +kernel
theorem dX7_hasRoomFor_2 : decode cX7_hasRoomFor 2 = .ok (.iconst 0, 1) := by decide +kernel
theorem dX7_hasRoomFor_3 : decode cX7_hasRoomFor 3 = .ok (.istore_n 3, 1) := by decide +kernel
theorem dX7_hasRoomFor_4 : decode cX7_hasRoomFor 4 = .ok (.iload_n 3, 1) := by decide +kernel
theorem dX7_hasRoomFor_5 : decode cX7_hasRoomFor 5 = .ok (.aload_n 0, 1) := by decide +kernel
theorem dX7_hasRoomFor_6 : decode cX7_hasRoomFor 6 = .ok (.getfield 12, 3) := by decide +kernel
theorem dX7_hasRoomFor_9 : decode cX7_hasRoomFor 9 = .ok (.invokevirtual 29, 3) := by decide +kernel
theorem dX7_hasRoomFor_12 : decode cX7_hasRoomFor 12 = .ok (.if_icmp .ge 30, 3) := by decide +kernel
theorem dX7_hasRoomFor_15 : decode cX7_hasRoomFor 15 = .ok (.aload_n 0, 1) := by decide +kernel
theorem dX7_hasRoomFor_16 : decode cX7_hasRoomFor 16 = .ok (.getfield 12, 3) := by decide +kernel
theorem dX7_hasRoomFor_19 : decode cX7_hasRoomFor 19 = .ok (.iload_n 3, 1) := by decide +kernel
theorem dX7_hasRoomFor_20 : decode cX7_hasRoomFor 20 = .ok (.invokevirtual 33, 3) := by decide +kernel
theorem dX7_hasRoomFor_23 : decode cX7_hasRoomFor 23 = .ok (.checkcast 37, 3) := by decide +kernel
theorem dX7_hasRoomFor_26 : decode cX7_hasRoomFor 26 = .ok (.getfield 39, 3) := by decide +kernel
theorem dX7_hasRoomFor_29 : decode cX7_hasRoomFor 29 = .ok (.iload_n 1, 1) := by decide +kernel
theorem dX7_hasRoomFor_30 : decode cX7_hasRoomFor 30 = .ok (.if_icmp .ne 6, 3) := by decide +kernel
theorem dX7_hasRoomFor_33 : decode cX7_hasRoomFor 33 = .ok (.iinc 2 1, 3) := by decide +kernel
theorem dX7_hasRoomFor_36 : decode cX7_hasRoomFor 36 = .ok (.iinc 3 1, 3) := by decide +kernel
theorem dX7_hasRoomFor_39 : decode cX7_hasRoomFor 39 = .ok (.goto (-35), 3) := by decide +kernel
theorem dX7_hasRoomFor_42 : decode cX7_hasRoomFor 42 = .ok (.iload_n 2, 1) := by decide +kernel
theorem dX7_hasRoomFor_43 : decode cX7_hasRoomFor 43 = .ok (.iconst 4, 1) := by decide +kernel
theorem dX7_hasRoomFor_44 : decode cX7_hasRoomFor 44 = .ok (.if_icmp .ge 7, 3) := by decide +kernel
theorem dX7_hasRoomFor_47 : decode cX7_hasRoomFor 47 = .ok (.iconst 1, 1) := by decide +kernel
theorem dX7_hasRoomFor_48 : decode cX7_hasRoomFor 48 = .ok (.goto 4, 3) := by decide +kernel
theorem dX7_hasRoomFor_51 : decode cX7_hasRoomFor 51 = .ok (.iconst 0, 1) := by decide +kernel
theorem dX7_hasRoomFor_52 : decode cX7_hasRoomFor 52 = .ok (.ireturn, 1) := by decide +kernel
theorem dX7_add_0 : decode cX7_add 0 = .ok (.aload_n 0, 1) := by decide +kernel
theorem dX7_add_1 : decode cX7_add 1 = .ok (.getfield 12, 3) := by decide +kernel
theorem dX7_add_4 : decode cX7_add 4 = .ok (.aload_n 1, 1) := by decide +kernel
theorem dX7_add_5 : decode cX7_add 5 = .ok (.invokevirtual 43, 3) := by decide +kernel
theorem dX7_add_8 : decode cX7_add 8 = .ok (.pop, 1) := by decide +kernel
theorem dX7_add_9 : decode cX7_add 9 = .ok (.aload_n 0, 1) := by decide +kernel
theorem dX7_add_10 : decode cX7_add 10 = .ok (.dup, 1) := by decide +kernel
theorem dX7_add_11 : decode cX7_add 11 = .ok (.getfield 18, 3) := by decide +kernel
theorem dX7_add_14 : decode cX7_add 14 = .ok (.iconst 1, 1) := by decide +kernel
theorem dX7_add_15 : decode cX7_add 15 = .ok (.iadd, 1) := by decide +kernel
theorem dX7_add_16 : decode cX7_add 16 = .ok (.putfield 18, 3) := by decide +kernel
theorem dX7_add_19 : decode cX7_add 19 = .ok (.return_, 1) := by decide +kernel
theorem dX7_beginRound_0 : decode cX7_beginRound 0 = .ok (.aload_n 0, 1) := by decide +kernel
theorem dX7_beginRound_1 : decode cX7_beginRound 1 = .ok (.dup, 1) := by decide +kernel
theorem dX7_beginRound_2 : decode cX7_beginRound 2 = .ok (.getfield 18, 3) := by decide +kernel
theorem dX7_beginRound_5 : decode cX7_beginRound 5 = .ok (.iconst 1, 1) := by decide +kernel
theorem dX7_beginRound_6 : decode cX7_beginRound 6 = .ok (.iadd, 1) := by decide +kernel
theorem dX7_beginRound_7 : decode cX7_beginRound 7 = .ok (.putfield 18, 3) := by decide +kernel
theorem dX7_beginRound_10 : decode cX7_beginRound 10 = .ok (.iconst 0, 1) := by decide +kernel
theorem dX7_beginRound_11 : decode cX7_beginRound 11 = .ok (.istore_n 1, 1) := by decide +kernel
theorem dX7_beginRound_12 : decode cX7_beginRound 12 = .ok (.iload_n 1, 1) := by decide +kernel
theorem dX7_beginRound_13 : decode cX7_beginRound 13 = .ok (.aload_n 0, 1) := by decide +kernel
theorem dX7_beginRound_14 : decode cX7_beginRound 14 = .ok (.getfield 12, 3) := by decide +kernel
theorem dX7_beginRound_17 : decode cX7_beginRound 17 = .ok (.invokevirtual 29, 3) := by decide +kernel
theorem dX7_beginRound_20 : decode cX7_beginRound 20 = .ok (.if_icmp .ge 23, 3) := by decide +kernel
theorem dX7_beginRound_23 : decode cX7_beginRound 23 = .ok (.aload_n 0, 1) := by decide +kernel
theorem dX7_beginRound_24 : decode cX7_beginRound 24 = .ok (.getfield 12, 3) := by decide +kernel
theorem dX7_beginRound_27 : decode cX7_beginRound 27 = .ok (.iload_n 1, 1) := by decide +kernel
theorem dX7_beginRound_28 : decode cX7_beginRound 28 = .ok (.invokevirtual 33, 3) := by decide +kernel
theorem dX7_beginRound_31 : decode cX7_beginRound 31 = .ok (.checkcast 37, 3) := by decide +kernel
theorem dX7_beginRound_34 : decode cX7_beginRound 34 = .ok (.invokevirtual 47, 3) := by decide +kernel
theorem dX7_beginRound_37 : decode cX7_beginRound 37 = .ok (.iinc 1 1, 3) := by decide +kernel
theorem dX7_beginRound_40 : decode cX7_beginRound 40 = .ok (.goto (-28), 3) := by decide +kernel
theorem dX7_beginRound_43 : decode cX7_beginRound 43 = .ok (.return_, 1) := by decide +kernel
theorem dX7_looksAnewAt_0 : decode cX7_looksAnewAt 0 = .ok (.aload_n 0, 1) := by decide +kernel
theorem dX7_looksAnewAt_1 : decode cX7_looksAnewAt 1 = .ok (.getfield 26, 3) := by decide +kernel
theorem dX7_looksAnewAt_4 : decode cX7_looksAnewAt 4 = .ok (.ifCond .lt 15, 3) := by decide +kernel
theorem dX7_looksAnewAt_7 : decode cX7_looksAnewAt 7 = .ok (.aload_n 0, 1) := by decide +kernel
theorem dX7_looksAnewAt_8 : decode cX7_looksAnewAt 8 = .ok (.getfield 26, 3) := by decide +kernel
theorem dX7_looksAnewAt_11 : decode cX7_looksAnewAt 11 = .ok (.aload_n 1, 1) := by decide +kernel
theorem dX7_looksAnewAt_12 : decode cX7_looksAnewAt 12 = .ok (.getfield 50, 3) := by decide +kernel
theorem dX7_looksAnewAt_15 : decode cX7_looksAnewAt 15 = .ok (.arraylength, 1) := by decide +kernel
theorem dX7_looksAnewAt_16 : decode cX7_looksAnewAt 16 = .ok (.if_icmp .lt 5, 3) := by decide +kernel
theorem dX7_looksAnewAt_19 : decode cX7_looksAnewAt 19 = .ok (.iconst 1, 1) := by decide +kernel
theorem dX7_looksAnewAt_20 : decode cX7_looksAnewAt 20 = .ok (.ireturn, 1) := by decide +kernel
theorem dX7_looksAnewAt_21 : decode cX7_looksAnewAt 21 = .ok (.aload_n 1, 1) := by decide +kernel
theorem dX7_looksAnewAt_22 : decode cX7_looksAnewAt 22 = .ok (.getfield 50, 3) := by decide +kernel
theorem dX7_looksAnewAt_25 : decode cX7_looksAnewAt 25 = .ok (.aload_n 0, 1) := by decide +kernel
theorem dX7_looksAnewAt_26 : decode cX7_looksAnewAt 26 = .ok (.getfield 26, 3) := by decide +kernel
theorem dX7_looksAnewAt_29 : decode cX7_looksAnewAt 29 = .ok (.iaload, 1) := by decide +kernel
theorem dX7_looksAnewAt_30 : decode cX7_looksAnewAt 30 = .ok (.aload_n 0, 1) := by decide +kernel
theorem dX7_looksAnewAt_31 : decode cX7_looksAnewAt 31 = .ok (.getfield 18, 3) := by decide +kernel
theorem dX7_looksAnewAt_34 : decode cX7_looksAnewAt 34 = .ok (.iconst 1, 1) := by decide +kernel
theorem dX7_looksAnewAt_35 : decode cX7_looksAnewAt 35 = .ok (.isub, 1) := by decide +kernel
theorem dX7_looksAnewAt_36 : decode cX7_looksAnewAt 36 = .ok (.if_icmp .eq 7, 3) := by decide +kernel
theorem dX7_looksAnewAt_39 : decode cX7_looksAnewAt 39 = .ok (.iconst 1, 1) := by decide +kernel
theorem dX7_looksAnewAt_40 : decode cX7_looksAnewAt 40 = .ok (.goto 4, 3) := by decide +kernel
theorem dX7_looksAnewAt_43 : decode cX7_looksAnewAt 43 = .ok (.iconst 0, 1) := by decide +kernel
theorem dX7_looksAnewAt_44 : decode cX7_looksAnewAt 44 = .ok (.istore_n 2, 1) := by decide +kernel
theorem dX7_looksAnewAt_45 : decode cX7_looksAnewAt 45 = .ok (.aload_n 1, 1) := by decide +kernel
theorem dX7_looksAnewAt_46 : decode cX7_looksAnewAt 46 = .ok (.getfield 50, 3) := by decide +kernel
theorem dX7_looksAnewAt_49 : decode cX7_looksAnewAt 49 = .ok (.aload_n 0, 1) := by decide +kernel
theorem dX7_looksAnewAt_50 : decode cX7_looksAnewAt 50 = .ok (.getfield 26, 3) := by decide +kernel
theorem dX7_looksAnewAt_53 : decode cX7_looksAnewAt 53 = .ok (.aload_n 0, 1) := by decide +kernel
theorem dX7_looksAnewAt_54 : decode cX7_looksAnewAt 54 = .ok (.getfield 18, 3) := by decide +kernel
theorem dX7_looksAnewAt_57 : decode cX7_looksAnewAt 57 = .ok (.iastore, 1) := by decide +kernel
theorem dX7_looksAnewAt_58 : decode cX7_looksAnewAt 58 = .ok (.iload_n 2, 1) := by decide +kernel
theorem dX7_looksAnewAt_59 : decode cX7_looksAnewAt 59 = .ok (.ireturn, 1) := by decide +kernel
theorem dX7_pass_0 : decode cX7_pass 0 = .ok (.iconst 0, 1) := by decide +kernel
theorem dX7_pass_1 : decode cX7_pass 1 = .ok (.istore_n 3, 1) := by decide +kernel
theorem dX7_pass_2 : decode cX7_pass 2 = .ok (.iload_n 3, 1) := by decide +kernel
theorem dX7_pass_3 : decode cX7_pass 3 = .ok (.aload_n 0, 1) := by decide +kernel
theorem dX7_pass_4 : decode cX7_pass 4 = .ok (.getfield 12, 3) := by decide +kernel
theorem dX7_pass_7 : decode cX7_pass 7 = .ok (.invokevirtual 29, 3) := by decide +kernel
theorem dX7_pass_10 : decode cX7_pass 10 = .ok (.if_icmp .ge 25, 3) := by decide +kernel
theorem dX7_pass_13 : decode cX7_pass 13 = .ok (.aload_n 0, 1) := by decide +kernel
theorem dX7_pass_14 : decode cX7_pass 14 = .ok (.getfield 12, 3) := by decide +kernel
theorem dX7_pass_17 : decode cX7_pass 17 = .ok (.iload_n 3, 1) := by decide +kernel
theorem dX7_pass_18 : decode cX7_pass 18 = .ok (.invokevirtual 33, 3) := by decide +kernel
theorem dX7_pass_21 : decode cX7_pass 21 = .ok (.checkcast 37, 3) := by decide +kernel
theorem dX7_pass_24 : decode cX7_pass 24 = .ok (.aload_n 1, 1) := by decide +kernel
theorem dX7_pass_25 : decode cX7_pass 25 = .ok (.iload_n 2, 1) := by decide +kernel
theorem dX7_pass_26 : decode cX7_pass 26 = .ok (.invokevirtual 56, 3) := by decide +kernel
theorem dX7_pass_29 : decode cX7_pass 29 = .ok (.iinc 3 1, 3) := by decide +kernel
theorem dX7_pass_32 : decode cX7_pass 32 = .ok (.goto (-30), 3) := by decide +kernel
theorem dX7_pass_35 : decode cX7_pass 35 = .ok (.return_, 1) := by decide +kernel
theorem dX7_takes_0 : decode cX7_takes 0 = .ok (.aload_n 0, 1) := by decide +kernel
theorem dX7_takes_1 : decode cX7_takes 1 = .ok (.iconst 0, 1) := by decide +kernel
theorem dX7_takes_2 : decode cX7_takes 2 = .ok (.iload_n 1, 1) := by decide +kernel
theorem dX7_takes_3 : decode cX7_takes 3 = .ok (.iload_n 2, 1) := by decide +kernel
theorem dX7_takes_4 : decode cX7_takes 4 = .ok (.invokevirtual 60, 3) := by decide +kernel
theorem dX7_takes_7 : decode cX7_takes 7 = .ok (.ifCond .eq 17, 3) := by decide +kernel
theorem dX7_takes_10 : decode cX7_takes 10 = .ok (.aload_n 0, 1) := by decide +kernel
theorem dX7_takes_11 : decode cX7_takes 11 = .ok (.iconst 1, 1) := by decide +kernel
theorem dX7_takes_12 : decode cX7_takes 12 = .ok (.iload_n 1, 1) := by decide +kernel
theorem dX7_takes_13 : decode cX7_takes 13 = .ok (.iload_n 2, 1) := by decide +kernel
theorem dX7_takes_14 : decode cX7_takes 14 = .ok (.invokevirtual 60, 3) := by decide +kernel
theorem dX7_takes_17 : decode cX7_takes 17 = .ok (.ifCond .ne 7, 3) := by decide +kernel
theorem dX7_takes_20 : decode cX7_takes 20 = .ok (.iconst 1, 1) := by decide +kernel
theorem dX7_takes_21 : decode cX7_takes 21 = .ok (.goto 4, 3) := by decide +kernel
theorem dX7_takes_24 : decode cX7_takes 24 = .ok (.iconst 0, 1) := by decide +kernel
theorem dX7_takes_25 : decode cX7_takes 25 = .ok (.ireturn, 1) := by decide +kernel
theorem dX7_fitsOne_0 : decode cX7_fitsOne 0 = .ok (.iconst 0, 1) := by decide +kernel
theorem dX7_fitsOne_1 : decode cX7_fitsOne 1 = .ok (.istore 4, 2) := by decide +kernel
theorem dX7_fitsOne_3 : decode cX7_fitsOne 3 = .ok (.iload 4, 2) := by decide +kernel
theorem dX7_fitsOne_5 : decode cX7_fitsOne 5 = .ok (.aload_n 0, 1) := by decide +kernel
theorem dX7_fitsOne_6 : decode cX7_fitsOne 6 = .ok (.getfield 12, 3) := by decide +kernel
theorem dX7_fitsOne_9 : decode cX7_fitsOne 9 = .ok (.invokevirtual 29, 3) := by decide +kernel
theorem dX7_fitsOne_12 : decode cX7_fitsOne 12 = .ok (.if_icmp .ge 44, 3) := by decide +kernel
theorem dX7_fitsOne_15 : decode cX7_fitsOne 15 = .ok (.aload_n 0, 1) := by decide +kernel
theorem dX7_fitsOne_16 : decode cX7_fitsOne 16 = .ok (.getfield 12, 3) := by decide +kernel
theorem dX7_fitsOne_19 : decode cX7_fitsOne 19 = .ok (.iload 4, 2) := by decide +kernel
theorem dX7_fitsOne_21 : decode cX7_fitsOne 21 = .ok (.invokevirtual 33, 3) := by decide +kernel
theorem dX7_fitsOne_24 : decode cX7_fitsOne 24 = .ok (.checkcast 37, 3) := by decide +kernel
theorem dX7_fitsOne_27 : decode cX7_fitsOne 27 = .ok (.astore 5, 2) := by decide +kernel
theorem dX7_fitsOne_29 : decode cX7_fitsOne 29 = .ok (.aload 5, 2) := by decide +kernel
theorem dX7_fitsOne_31 : decode cX7_fitsOne 31 = .ok (.getfield 39, 3) := by decide +kernel
theorem dX7_fitsOne_34 : decode cX7_fitsOne 34 = .ok (.iload_n 1, 1) := by decide +kernel
theorem dX7_fitsOne_35 : decode cX7_fitsOne 35 = .ok (.if_icmp .ne 15, 3) := by decide +kernel
theorem dX7_fitsOne_38 : decode cX7_fitsOne 38 = .ok (.aload 5, 2) := by decide +kernel
theorem dX7_fitsOne_40 : decode cX7_fitsOne 40 = .ok (.iload_n 2, 1) := by decide +kernel
theorem dX7_fitsOne_41 : decode cX7_fitsOne 41 = .ok (.iload_n 3, 1) := by decide +kernel
theorem dX7_fitsOne_42 : decode cX7_fitsOne 42 = .ok (.invokevirtual 64, 3) := by decide +kernel
theorem dX7_fitsOne_45 : decode cX7_fitsOne 45 = .ok (.ifCond .eq 5, 3) := by decide +kernel
theorem dX7_fitsOne_48 : decode cX7_fitsOne 48 = .ok (.iconst 1, 1) := by decide +kernel
theorem dX7_fitsOne_49 : decode cX7_fitsOne 49 = .ok (.ireturn, 1) := by decide +kernel
theorem dX7_fitsOne_50 : decode cX7_fitsOne 50 = .ok (.iinc 4 1, 3) := by decide +kernel
theorem dX7_fitsOne_53 : decode cX7_fitsOne 53 = .ok (.goto (-50), 3) := by decide +kernel
theorem dX7_fitsOne_56 : decode cX7_fitsOne 56 = .ok (.iconst 0, 1) := by decide +kernel
theorem dX7_fitsOne_57 : decode cX7_fitsOne 57 = .ok (.ireturn, 1) := by decide +kernel
theorem dX7_goesOn_0 : decode cX7_goesOn 0 = .ok (.iconst 0, 1) := by decide +kernel
theorem dX7_goesOn_1 : decode cX7_goesOn 1 = .ok (.istore_n 2, 1) := by decide +kernel
theorem dX7_goesOn_2 : decode cX7_goesOn 2 = .ok (.iload_n 2, 1) := by decide +kernel
theorem dX7_goesOn_3 : decode cX7_goesOn 3 = .ok (.aload_n 0, 1) := by decide +kernel
theorem dX7_goesOn_4 : decode cX7_goesOn 4 = .ok (.getfield 12, 3) := by decide +kernel
theorem dX7_goesOn_7 : decode cX7_goesOn 7 = .ok (.invokevirtual 29, 3) := by decide +kernel
theorem dX7_goesOn_10 : decode cX7_goesOn 10 = .ok (.if_icmp .ge 38, 3) := by decide +kernel
theorem dX7_goesOn_13 : decode cX7_goesOn 13 = .ok (.aload_n 0, 1) := by decide +kernel
theorem dX7_goesOn_14 : decode cX7_goesOn 14 = .ok (.getfield 12, 3) := by decide +kernel
theorem dX7_goesOn_17 : decode cX7_goesOn 17 = .ok (.iload_n 2, 1) := by decide +kernel
theorem dX7_goesOn_18 : decode cX7_goesOn 18 = .ok (.invokevirtual 33, 3) := by decide +kernel
theorem dX7_goesOn_21 : decode cX7_goesOn 21 = .ok (.checkcast 37, 3) := by decide +kernel
theorem dX7_goesOn_24 : decode cX7_goesOn 24 = .ok (.astore_n 3, 1) := by decide +kernel
theorem dX7_goesOn_25 : decode cX7_goesOn 25 = .ok (.aload_n 3, 1) := by decide +kernel
theorem dX7_goesOn_26 : decode cX7_goesOn 26 = .ok (.getfield 39, 3) := by decide +kernel
theorem dX7_goesOn_29 : decode cX7_goesOn 29 = .ok (.ifCond .ne 13, 3) := by decide +kernel
theorem dX7_goesOn_32 : decode cX7_goesOn 32 = .ok (.aload_n 3, 1) := by decide +kernel
theorem dX7_goesOn_33 : decode cX7_goesOn 33 = .ok (.iload_n 1, 1) := by decide +kernel
theorem dX7_goesOn_34 : decode cX7_goesOn 34 = .ok (.invokevirtual 68, 3) := by decide +kernel
theorem dX7_goesOn_37 : decode cX7_goesOn 37 = .ok (.ifCond .eq 5, 3) := by decide +kernel
theorem dX7_goesOn_40 : decode cX7_goesOn 40 = .ok (.iconst 1, 1) := by decide +kernel
theorem dX7_goesOn_41 : decode cX7_goesOn 41 = .ok (.ireturn, 1) := by decide +kernel
theorem dX7_goesOn_42 : decode cX7_goesOn 42 = .ok (.iinc 2 1, 3) := by decide +kernel
theorem dX7_goesOn_45 : decode cX7_goesOn 45 = .ok (.goto (-43), 3) := by decide +kernel
theorem dX7_goesOn_48 : decode cX7_goesOn 48 = .ok (.iconst 0, 1) := by decide +kernel
theorem dX7_goesOn_49 : decode cX7_goesOn 49 = .ok (.ireturn, 1) := by decide +kernel
theorem dX8_init_0 : decode cX8_init 0 = .ok (.aload_n 0, 1) := by decide +kernel
theorem dX8_init_1 : decode cX8_init 1 = .ok (.invokespecial 3, 3) := by decide +kernel
theorem dX8_init_4 : decode cX8_init 4 = .ok (.aload_n 0, 1) := by decide +kernel
theorem dX8_init_5 : decode cX8_init 5 = .ok (.new 9, 3) := by decide +kernel
theorem dX8_init_8 : decode cX8_init 8 = .ok (.dup, 1) := by decide +kernel
theorem dX8_init_9 : decode cX8_init 9 = .ok (.ldc 11, 2) := by decide +kernel
theorem dX8_init_11 : decode cX8_init 11 = .ok (.aconst_null, 1) := by decide +kernel
theorem dX8_init_12 : decode cX8_init 12 = .ok (.iconst 1, 1) := by decide +kernel
theorem dX8_init_13 : decode cX8_init 13 = .ok (.invokespecial 13, 3) := by decide +kernel
theorem dX8_init_16 : decode cX8_init 16 = .ok (.putfield 16, 3) := by decide +kernel
theorem dX8_init_19 : decode cX8_init 19 = .ok (.aload_n 0, 1) := by decide +kernel
theorem dX8_init_20 : decode cX8_init 20 = .ok (.getfield 16, 3) := by decide +kernel
theorem dX8_init_23 : decode cX8_init 23 = .ok (.iconst 1, 1) := by decide +kernel
theorem dX8_init_24 : decode cX8_init 24 = .ok (.putfield 22, 3) := by decide +kernel
theorem dX8_init_27 : decode cX8_init 27 = .ok (.return_, 1) := by decide +kernel
theorem dX8_at_0 : decode cX8_at 0 = .ok (.aload_n 0, 1) := by decide +kernel
theorem dX8_at_1 : decode cX8_at 1 = .ok (.getfield 16, 3) := by decide +kernel
theorem dX8_at_4 : decode cX8_at 4 = .ok (.astore_n 2, 1) := by decide +kernel
theorem dX8_at_5 : decode cX8_at 5 = .ok (.iconst 0, 1) := by decide +kernel
theorem dX8_at_6 : decode cX8_at 6 = .ok (.istore_n 3, 1) := by decide +kernel
theorem dX8_at_7 : decode cX8_at 7 = .ok (.iload_n 3, 1) := by decide +kernel
theorem dX8_at_8 : decode cX8_at 8 = .ok (.aload_n 1, 1) := by decide +kernel
theorem dX8_at_9 : decode cX8_at 9 = .ok (.getfield 26, 3) := by decide +kernel
theorem dX8_at_12 : decode cX8_at 12 = .ok (.if_icmp .ge 23, 3) := by decide +kernel
theorem dX8_at_15 : decode cX8_at 15 = .ok (.aload_n 2, 1) := by decide +kernel
theorem dX8_at_16 : decode cX8_at 16 = .ok (.ifnull 19, 3) := by decide +kernel
theorem dX8_at_19 : decode cX8_at 19 = .ok (.aload_n 2, 1) := by decide +kernel
theorem dX8_at_20 : decode cX8_at 20 = .ok (.aload_n 1, 1) := by decide +kernel
theorem dX8_at_21 : decode cX8_at 21 = .ok (.iload_n 3, 1) := by decide +kernel
theorem dX8_at_22 : decode cX8_at 22 = .ok (.invokevirtual 32, 3) := by decide +kernel
theorem dX8_at_25 : decode cX8_at 25 = .ok (.invokevirtual 36, 3) := by decide +kernel
theorem dX8_at_28 : decode cX8_at 28 = .ok (.astore_n 2, 1) := by decide +kernel
theorem dX8_at_29 : decode cX8_at 29 = .ok (.iinc 3 1, 3) := by decide +kernel
theorem dX8_at_32 : decode cX8_at 32 = .ok (.goto (-25), 3) := by decide +kernel
theorem dX8_at_35 : decode cX8_at 35 = .ok (.aload_n 2, 1) := by decide +kernel
theorem dX8_at_36 : decode cX8_at 36 = .ok (.areturn, 1) := by decide +kernel
theorem dX8_make_0 : decode cX8_make 0 = .ok (.aload_n 0, 1) := by decide +kernel
theorem dX8_make_1 : decode cX8_make 1 = .ok (.getfield 16, 3) := by decide +kernel
theorem dX8_make_4 : decode cX8_make 4 = .ok (.astore_n 3, 1) := by decide +kernel
theorem dX8_make_5 : decode cX8_make 5 = .ok (.iconst 0, 1) := by decide +kernel
theorem dX8_make_6 : decode cX8_make 6 = .ok (.istore 4, 2) := by decide +kernel
theorem dX8_make_8 : decode cX8_make 8 = .ok (.aload_n 3, 1) := by decide +kernel
theorem dX8_make_9 : decode cX8_make 9 = .ok (.aload_n 1, 1) := by decide +kernel
theorem dX8_make_10 : decode cX8_make 10 = .ok (.iconst 0, 1) := by decide +kernel
theorem dX8_make_11 : decode cX8_make 11 = .ok (.invokevirtual 32, 3) := by decide +kernel
theorem dX8_make_14 : decode cX8_make 14 = .ok (.invokevirtual 36, 3) := by decide +kernel
theorem dX8_make_17 : decode cX8_make 17 = .ok (.astore 5, 2) := by decide +kernel
theorem dX8_make_19 : decode cX8_make 19 = .ok (.iload 4, 2) := by decide +kernel
theorem dX8_make_21 : decode cX8_make 21 = .ok (.aload_n 1, 1) := by decide +kernel
theorem dX8_make_22 : decode cX8_make 22 = .ok (.getfield 26, 3) := by decide +kernel
theorem dX8_make_25 : decode cX8_make 25 = .ok (.if_icmp .ge 29, 3) := by decide +kernel
theorem dX8_make_28 : decode cX8_make 28 = .ok (.aload 5, 2) := by decide +kernel
theorem dX8_make_30 : decode cX8_make 30 = .ok (.ifnull 24, 3) := by decide +kernel
theorem dX8_make_33 : decode cX8_make 33 = .ok (.aload 5, 2) := by decide +kernel
theorem dX8_make_35 : decode cX8_make 35 = .ok (.astore_n 3, 1) := by decide +kernel
theorem dX8_make_36 : decode cX8_make 36 = .ok (.iinc 4 1, 3) := by decide +kernel
theorem dX8_make_39 : decode cX8_make 39 = .ok (.aload_n 3, 1) := by decide +kernel
theorem dX8_make_40 : decode cX8_make 40 = .ok (.aload_n 1, 1) := by decide +kernel
theorem dX8_make_41 : decode cX8_make 41 = .ok (.iload 4, 2) := by decide +kernel
theorem dX8_make_43 : decode cX8_make 43 = .ok (.invokevirtual 32, 3) := by decide +kernel
theorem dX8_make_46 : decode cX8_make 46 = .ok (.invokevirtual 36, 3) := by decide +kernel
theorem dX8_make_49 : decode cX8_make 49 = .ok (.astore 5, 2) := by decide +kernel
theorem dX8_make_51 : decode cX8_make 51 = .ok (.goto (-32), 3) := by decide +kernel
theorem dX8_make_54 : decode cX8_make 54 = .ok (.aload_n 1, 1) := by decide +kernel
theorem dX8_make_55 : decode cX8_make 55 = .ok (.getfield 26, 3) := by decide +kernel
theorem dX8_make_58 : decode cX8_make 58 = .ok (.iload 4, 2) := by decide +kernel
theorem dX8_make_60 : decode cX8_make 60 = .ok (.isub, 1) := by decide +kernel
theorem dX8_make_61 : decode cX8_make 61 = .ok (.istore 6, 2) := by decide +kernel
theorem dX8_make_63 : decode cX8_make 63 = .ok (.aload_n 3, 1) := by decide +kernel
theorem dX8_make_64 : decode cX8_make 64 = .ok (.getfield 40, 3) := by decide +kernel
theorem dX8_make_67 : decode cX8_make 67 = .ok (.iload 6, 2) := by decide +kernel
theorem dX8_make_69 : decode cX8_make 69 = .ok (.ifCond .gt 7, 3) := by decide +kernel
theorem dX8_make_72 : decode cX8_make 72 = .ok (.iload_n 2, 1) := by decide +kernel
theorem dX8_make_73 : decode cX8_make 73 = .ok (.ifCond .eq 7, 3) := by decide +kernel
theorem dX8_make_76 : decode cX8_make 76 = .ok (.iconst 1, 1) := by decide +kernel
theorem dX8_make_77 : decode cX8_make 77 = .ok (.goto 4, 3) := by decide +kernel
theorem dX8_make_80 : decode cX8_make 80 = .ok (.iconst 0, 1) := by decide +kernel
theorem dX8_make_81 : decode cX8_make 81 = .ok (.if_icmp .eq 13, 3) := by decide +kernel
theorem dX8_make_84 : decode cX8_make 84 = .ok (.new 43, 3) := by decide +kernel
theorem dX8_make_87 : decode cX8_make 87 = .ok (.dup, 1) := by decide +kernel
theorem dX8_make_88 : decode cX8_make 88 = .ok (.ldc 45, 2) := by decide +kernel
theorem dX8_make_90 : decode cX8_make 90 = .ok (.invokespecial 47, 3) := by decide +kernel
theorem dX8_make_93 : decode cX8_make 93 = .ok (.athrow, 1) := by decide +kernel
theorem dX8_make_94 : decode cX8_make 94 = .ok (.aload_n 0, 1) := by decide +kernel
theorem dX8_make_95 : decode cX8_make 95 = .ok (.getfield 50, 3) := by decide +kernel
theorem dX8_make_98 : decode cX8_make 98 = .ok (.iload 6, 2) := by decide +kernel
theorem dX8_make_100 : decode cX8_make 100 = .ok (.iadd, 1) := by decide +kernel
theorem dX8_make_101 : decode cX8_make 101 = .ok (.bipush 60, 2) := by decide +kernel
theorem dX8_make_103 : decode cX8_make 103 = .ok (.if_icmp .le 13, 3) := by decide +kernel
theorem dX8_make_106 : decode cX8_make 106 = .ok (.new 43, 3) := by decide +kernel
theorem dX8_make_109 : decode cX8_make 109 = .ok (.dup, 1) := by decide +kernel
theorem dX8_make_110 : decode cX8_make 110 = .ok (.ldc 53, 2) := by decide +kernel
theorem dX8_make_112 : decode cX8_make 112 = .ok (.invokespecial 47, 3) := by decide +kernel
theorem dX8_make_115 : decode cX8_make 115 = .ok (.athrow, 1) := by decide +kernel
theorem dX8_make_116 : decode cX8_make 116 = .ok (.iload 4, 2) := by decide +kernel
theorem dX8_make_118 : decode cX8_make 118 = .ok (.istore 7, 2) := by decide +kernel
theorem dX8_make_120 : decode cX8_make 120 = .ok (.iload 7, 2) := by decide +kernel
theorem dX8_make_122 : decode cX8_make 122 = .ok (.aload_n 1, 1) := by decide +kernel
