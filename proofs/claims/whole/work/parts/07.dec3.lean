theorem dX7_hasPerson_23 : decode YX7_hasPerson.2.1 23 = .ok (.ireturn, 1) := by decide +kernel
theorem dX7_leastBar_0 : decode YX7_leastBar.2.1 0 = .ok (.iconst 1, 1) := by decide +kernel
theorem dX7_leastBar_1 : decode YX7_leastBar.2.1 1 = .ok (.aload_n 0, 1) := by decide +kernel
theorem dX7_leastBar_2 : decode YX7_leastBar.2.1 2 = .ok (.getfield 25, 3) := by decide +kernel
theorem dX7_leastBar_5 : decode YX7_leastBar.2.1 5 = .ok (.ishl, 1) := by decide +kernel
theorem dX7_leastBar_6 : decode YX7_leastBar.2.1 6 = .ok (.iconst 1, 1) := by decide +kernel
theorem dX7_leastBar_7 : decode YX7_leastBar.2.1 7 = .ok (.isub, 1) := by decide +kernel
theorem dX7_leastBar_8 : decode YX7_leastBar.2.1 8 = .ok (.istore_n 3, 1) := by decide +kernel
theorem dX7_leastBar_9 : decode YX7_leastBar.2.1 9 = .ok (.bipush 9, 2) := by decide +kernel
theorem dX7_leastBar_11 : decode YX7_leastBar.2.1 11 = .ok (.istore 4, 2) := by decide +kernel
theorem dX7_leastBar_13 : decode YX7_leastBar.2.1 13 = .ok (.iconst 0, 1) := by decide +kernel
theorem dX7_leastBar_14 : decode YX7_leastBar.2.1 14 = .ok (.istore 5, 2) := by decide +kernel
theorem dX7_leastBar_16 : decode YX7_leastBar.2.1 16 = .ok (.iload 5, 2) := by decide +kernel
theorem dX7_leastBar_18 : decode YX7_leastBar.2.1 18 = .ok (.iconst 1, 1) := by decide +kernel
theorem dX7_leastBar_19 : decode YX7_leastBar.2.1 19 = .ok (.aload_n 0, 1) := by decide +kernel
theorem dX7_leastBar_20 : decode YX7_leastBar.2.1 20 = .ok (.getfield 25, 3) := by decide +kernel
theorem dX7_leastBar_23 : decode YX7_leastBar.2.1 23 = .ok (.ishl, 1) := by decide +kernel
theorem dX7_leastBar_24 : decode YX7_leastBar.2.1 24 = .ok (.if_icmp .ge 73, 3) := by decide +kernel
theorem dX7_leastBar_27 : decode YX7_leastBar.2.1 27 = .ok (.iload 5, 2) := by decide +kernel
theorem dX7_leastBar_29 : decode YX7_leastBar.2.1 29 = .ok (.iload_n 1, 1) := by decide +kernel
theorem dX7_leastBar_30 : decode YX7_leastBar.2.1 30 = .ok (.invokestatic 46, 3) := by decide +kernel
theorem dX7_leastBar_33 : decode YX7_leastBar.2.1 33 = .ok (.ifCond .ne 16, 3) := by decide +kernel
theorem dX7_leastBar_36 : decode YX7_leastBar.2.1 36 = .ok (.iload 5, 2) := by decide +kernel
theorem dX7_leastBar_38 : decode YX7_leastBar.2.1 38 = .ok (.iload_n 2, 1) := by decide +kernel
theorem dX7_leastBar_39 : decode YX7_leastBar.2.1 39 = .ok (.invokestatic 46, 3) := by decide +kernel
theorem dX7_leastBar_42 : decode YX7_leastBar.2.1 42 = .ok (.ifCond .ne 7, 3) := by decide +kernel
theorem dX7_leastBar_45 : decode YX7_leastBar.2.1 45 = .ok (.iconst 1, 1) := by decide +kernel
theorem dX7_leastBar_46 : decode YX7_leastBar.2.1 46 = .ok (.goto 4, 3) := by decide +kernel
theorem dX7_leastBar_49 : decode YX7_leastBar.2.1 49 = .ok (.iconst 0, 1) := by decide +kernel
theorem dX7_leastBar_50 : decode YX7_leastBar.2.1 50 = .ok (.istore 6, 2) := by decide +kernel
theorem dX7_leastBar_52 : decode YX7_leastBar.2.1 52 = .ok (.iload 6, 2) := by decide +kernel
theorem dX7_leastBar_54 : decode YX7_leastBar.2.1 54 = .ok (.ifCond .eq 37, 3) := by decide +kernel
theorem dX7_leastBar_57 : decode YX7_leastBar.2.1 57 = .ok (.iload 5, 2) := by decide +kernel
theorem dX7_leastBar_59 : decode YX7_leastBar.2.1 59 = .ok (.invokestatic 54, 3) := by decide +kernel
theorem dX7_leastBar_62 : decode YX7_leastBar.2.1 62 = .ok (.iload 4, 2) := by decide +kernel
theorem dX7_leastBar_64 : decode YX7_leastBar.2.1 64 = .ok (.if_icmp .ge 27, 3) := by decide +kernel
theorem dX7_leastBar_67 : decode YX7_leastBar.2.1 67 = .ok (.aload_n 0, 1) := by decide +kernel
theorem dX7_leastBar_68 : decode YX7_leastBar.2.1 68 = .ok (.iload_n 1, 1) := by decide +kernel
theorem dX7_leastBar_69 : decode YX7_leastBar.2.1 69 = .ok (.iload 5, 2) := by decide +kernel
theorem dX7_leastBar_71 : decode YX7_leastBar.2.1 71 = .ok (.invokevirtual 59, 3) := by decide +kernel
theorem dX7_leastBar_74 : decode YX7_leastBar.2.1 74 = .ok (.iload_n 2, 1) := by decide +kernel
theorem dX7_leastBar_75 : decode YX7_leastBar.2.1 75 = .ok (.invokestatic 46, 3) := by decide +kernel
theorem dX7_leastBar_78 : decode YX7_leastBar.2.1 78 = .ok (.ifCond .ne 13, 3) := by decide +kernel
theorem dX7_leastBar_81 : decode YX7_leastBar.2.1 81 = .ok (.iload 5, 2) := by decide +kernel
theorem dX7_leastBar_83 : decode YX7_leastBar.2.1 83 = .ok (.istore_n 3, 1) := by decide +kernel
theorem dX7_leastBar_84 : decode YX7_leastBar.2.1 84 = .ok (.iload 5, 2) := by decide +kernel
theorem dX7_leastBar_86 : decode YX7_leastBar.2.1 86 = .ok (.invokestatic 54, 3) := by decide +kernel
theorem dX7_leastBar_89 : decode YX7_leastBar.2.1 89 = .ok (.istore 4, 2) := by decide +kernel
theorem dX7_leastBar_91 : decode YX7_leastBar.2.1 91 = .ok (.iinc 5 1, 3) := by decide +kernel
theorem dX7_leastBar_94 : decode YX7_leastBar.2.1 94 = .ok (.goto (-78), 3) := by decide +kernel
theorem dX7_leastBar_97 : decode YX7_leastBar.2.1 97 = .ok (.iload_n 3, 1) := by decide +kernel
theorem dX7_leastBar_98 : decode YX7_leastBar.2.1 98 = .ok (.ireturn, 1) := by decide +kernel
theorem dX7_measure_0 : decode YX7_measure.2.1 0 = .ok (.aload_n 0, 1) := by decide +kernel
theorem dX7_measure_1 : decode YX7_measure.2.1 1 = .ok (.getfield 22, 3) := by decide +kernel
theorem dX7_measure_4 : decode YX7_measure.2.1 4 = .ok (.iconst (-1), 1) := by decide +kernel
theorem dX7_measure_5 : decode YX7_measure.2.1 5 = .ok (.invokestatic 71, 3) := by decide +kernel
theorem dX7_measure_8 : decode YX7_measure.2.1 8 = .ok (.iconst 0, 1) := by decide +kernel
theorem dX7_measure_9 : decode YX7_measure.2.1 9 = .ok (.istore_n 1, 1) := by decide +kernel
theorem dX7_measure_10 : decode YX7_measure.2.1 10 = .ok (.iload_n 1, 1) := by decide +kernel
theorem dX7_measure_11 : decode YX7_measure.2.1 11 = .ok (.aload_n 0, 1) := by decide +kernel
theorem dX7_measure_12 : decode YX7_measure.2.1 12 = .ok (.getfield 25, 3) := by decide +kernel
theorem dX7_measure_15 : decode YX7_measure.2.1 15 = .ok (.if_icmp .ge 59, 3) := by decide +kernel
theorem dX7_measure_18 : decode YX7_measure.2.1 18 = .ok (.iload_n 1, 1) := by decide +kernel
theorem dX7_measure_19 : decode YX7_measure.2.1 19 = .ok (.bipush 8, 2) := by decide +kernel
theorem dX7_measure_21 : decode YX7_measure.2.1 21 = .ok (.if_icmp .ge 53, 3) := by decide +kernel
theorem dX7_measure_24 : decode YX7_measure.2.1 24 = .ok (.iconst 0, 1) := by decide +kernel
theorem dX7_measure_25 : decode YX7_measure.2.1 25 = .ok (.istore_n 2, 1) := by decide +kernel
theorem dX7_measure_26 : decode YX7_measure.2.1 26 = .ok (.iconst 1, 1) := by decide +kernel
theorem dX7_measure_27 : decode YX7_measure.2.1 27 = .ok (.iload_n 1, 1) := by decide +kernel
theorem dX7_measure_28 : decode YX7_measure.2.1 28 = .ok (.ishl, 1) := by decide +kernel
theorem dX7_measure_29 : decode YX7_measure.2.1 29 = .ok (.istore_n 3, 1) := by decide +kernel
theorem dX7_measure_30 : decode YX7_measure.2.1 30 = .ok (.iconst 0, 1) := by decide +kernel
theorem dX7_measure_31 : decode YX7_measure.2.1 31 = .ok (.istore 4, 2) := by decide +kernel
theorem dX7_measure_33 : decode YX7_measure.2.1 33 = .ok (.iload 4, 2) := by decide +kernel
theorem dX7_measure_35 : decode YX7_measure.2.1 35 = .ok (.bipush 8, 2) := by decide +kernel
theorem dX7_measure_37 : decode YX7_measure.2.1 37 = .ok (.if_icmp .ge 31, 3) := by decide +kernel
theorem dX7_measure_40 : decode YX7_measure.2.1 40 = .ok (.aload_n 0, 1) := by decide +kernel
theorem dX7_measure_41 : decode YX7_measure.2.1 41 = .ok (.iload_n 1, 1) := by decide +kernel
theorem dX7_measure_42 : decode YX7_measure.2.1 42 = .ok (.iload_n 3, 1) := by decide +kernel
theorem dX7_measure_43 : decode YX7_measure.2.1 43 = .ok (.iload 4, 2) := by decide +kernel
theorem dX7_measure_45 : decode YX7_measure.2.1 45 = .ok (.invokevirtual 178, 3) := by decide +kernel
theorem dX7_measure_48 : decode YX7_measure.2.1 48 = .ok (.iload_n 2, 1) := by decide +kernel
theorem dX7_measure_49 : decode YX7_measure.2.1 49 = .ok (.iload_n 3, 1) := by decide +kernel
theorem dX7_measure_50 : decode YX7_measure.2.1 50 = .ok (.ior, 1) := by decide +kernel
theorem dX7_measure_51 : decode YX7_measure.2.1 51 = .ok (.istore_n 2, 1) := by decide +kernel
theorem dX7_measure_52 : decode YX7_measure.2.1 52 = .ok (.aload_n 0, 1) := by decide +kernel
theorem dX7_measure_53 : decode YX7_measure.2.1 53 = .ok (.iload_n 3, 1) := by decide +kernel
theorem dX7_measure_54 : decode YX7_measure.2.1 54 = .ok (.invokevirtual 62, 3) := by decide +kernel
theorem dX7_measure_57 : decode YX7_measure.2.1 57 = .ok (.iload_n 2, 1) := by decide +kernel
theorem dX7_measure_58 : decode YX7_measure.2.1 58 = .ok (.iconst (-1), 1) := by decide +kernel
theorem dX7_measure_59 : decode YX7_measure.2.1 59 = .ok (.ixor, 1) := by decide +kernel
theorem dX7_measure_60 : decode YX7_measure.2.1 60 = .ok (.iand, 1) := by decide +kernel
theorem dX7_measure_61 : decode YX7_measure.2.1 61 = .ok (.istore_n 3, 1) := by decide +kernel
theorem dX7_measure_62 : decode YX7_measure.2.1 62 = .ok (.iinc 4 1, 3) := by decide +kernel
theorem dX7_measure_65 : decode YX7_measure.2.1 65 = .ok (.goto (-32), 3) := by decide +kernel
theorem dX7_measure_68 : decode YX7_measure.2.1 68 = .ok (.iinc 1 1, 3) := by decide +kernel
theorem dX7_measure_71 : decode YX7_measure.2.1 71 = .ok (.goto (-61), 3) := by decide +kernel
theorem dX7_measure_74 : decode YX7_measure.2.1 74 = .ok (.return_, 1) := by decide +kernel
theorem dX7_needNewName_0 : decode YX7_needNewName.2.1 0 = .ok (.aload_n 1, 1) := by decide +kernel
theorem dX7_needNewName_1 : decode YX7_needNewName.2.1 1 = .ok (.invokevirtual 137, 3) := by decide +kernel
theorem dX7_needNewName_4 : decode YX7_needNewName.2.1 4 = .ok (.ifCond .eq 31, 3) := by decide +kernel
theorem dX7_needNewName_7 : decode YX7_needNewName.2.1 7 = .ok (.aload_n 1, 1) := by decide +kernel
theorem dX7_needNewName_8 : decode YX7_needNewName.2.1 8 = .ok (.invokevirtual 133, 3) := by decide +kernel
theorem dX7_needNewName_11 : decode YX7_needNewName.2.1 11 = .ok (.lstore_n 2, 1) := by decide +kernel
theorem dX7_needNewName_12 : decode YX7_needNewName.2.1 12 = .ok (.aload_n 0, 1) := by decide +kernel
theorem dX7_needNewName_13 : decode YX7_needNewName.2.1 13 = .ok (.lload_n 2, 1) := by decide +kernel
theorem dX7_needNewName_14 : decode YX7_needNewName.2.1 14 = .ok (.invokevirtual 140, 3) := by decide +kernel
theorem dX7_needNewName_17 : decode YX7_needNewName.2.1 17 = .ok (.iconst (-1), 1) := by decide +kernel
theorem dX7_needNewName_18 : decode YX7_needNewName.2.1 18 = .ok (.if_icmp .ne 12, 3) := by decide +kernel
theorem dX7_needNewName_21 : decode YX7_needNewName.2.1 21 = .ok (.aload_n 0, 1) := by decide +kernel
theorem dX7_needNewName_22 : decode YX7_needNewName.2.1 22 = .ok (.lload_n 2, 1) := by decide +kernel
theorem dX7_needNewName_23 : decode YX7_needNewName.2.1 23 = .ok (.invokevirtual 144, 3) := by decide +kernel
theorem dX7_needNewName_26 : decode YX7_needNewName.2.1 26 = .ok (.iconst (-1), 1) := by decide +kernel
theorem dX7_needNewName_27 : decode YX7_needNewName.2.1 27 = .ok (.if_icmp .eq 8, 3) := by decide +kernel
theorem dX7_needNewName_30 : decode YX7_needNewName.2.1 30 = .ok (.aload_n 1, 1) := by decide +kernel
theorem dX7_needNewName_31 : decode YX7_needNewName.2.1 31 = .ok (.iconst 3, 1) := by decide +kernel
theorem dX7_needNewName_32 : decode YX7_needNewName.2.1 32 = .ok (.invokevirtual 123, 3) := by decide +kernel
theorem dX7_needNewName_35 : decode YX7_needNewName.2.1 35 = .ok (.aload_n 1, 1) := by decide +kernel
theorem dX7_needNewName_36 : decode YX7_needNewName.2.1 36 = .ok (.invokevirtual 83, 3) := by decide +kernel
theorem dX7_needNewName_39 : decode YX7_needNewName.2.1 39 = .ok (.ireturn, 1) := by decide +kernel
theorem dX7_noteFar_0 : decode YX7_noteFar.2.1 0 = .ok (.iconst 0, 1) := by decide +kernel
theorem dX7_noteFar_1 : decode YX7_noteFar.2.1 1 = .ok (.istore 4, 2) := by decide +kernel
theorem dX7_noteFar_3 : decode YX7_noteFar.2.1 3 = .ok (.iload 4, 2) := by decide +kernel
theorem dX7_noteFar_5 : decode YX7_noteFar.2.1 5 = .ok (.bipush 8, 2) := by decide +kernel
theorem dX7_noteFar_7 : decode YX7_noteFar.2.1 7 = .ok (.if_icmp .ge 31, 3) := by decide +kernel
theorem dX7_noteFar_10 : decode YX7_noteFar.2.1 10 = .ok (.iload_n 2, 1) := by decide +kernel
theorem dX7_noteFar_11 : decode YX7_noteFar.2.1 11 = .ok (.iload 4, 2) := by decide +kernel
theorem dX7_noteFar_13 : decode YX7_noteFar.2.1 13 = .ok (.invokestatic 46, 3) := by decide +kernel
theorem dX7_noteFar_16 : decode YX7_noteFar.2.1 16 = .ok (.ifCond .eq 16, 3) := by decide +kernel
theorem dX7_noteFar_19 : decode YX7_noteFar.2.1 19 = .ok (.aload_n 0, 1) := by decide +kernel
theorem dX7_noteFar_20 : decode YX7_noteFar.2.1 20 = .ok (.getfield 22, 3) := by decide +kernel
theorem dX7_noteFar_23 : decode YX7_noteFar.2.1 23 = .ok (.iload_n 1, 1) := by decide +kernel
theorem dX7_noteFar_24 : decode YX7_noteFar.2.1 24 = .ok (.bipush 8, 2) := by decide +kernel
theorem dX7_noteFar_26 : decode YX7_noteFar.2.1 26 = .ok (.imul, 1) := by decide +kernel
theorem dX7_noteFar_27 : decode YX7_noteFar.2.1 27 = .ok (.iload 4, 2) := by decide +kernel
theorem dX7_noteFar_29 : decode YX7_noteFar.2.1 29 = .ok (.iadd, 1) := by decide +kernel
theorem dX7_noteFar_30 : decode YX7_noteFar.2.1 30 = .ok (.iload_n 3, 1) := by decide +kernel
theorem dX7_noteFar_31 : decode YX7_noteFar.2.1 31 = .ok (.iastore, 1) := by decide +kernel
theorem dX7_noteFar_32 : decode YX7_noteFar.2.1 32 = .ok (.iinc 4 1, 3) := by decide +kernel
theorem dX7_noteFar_35 : decode YX7_noteFar.2.1 35 = .ok (.goto (-32), 3) := by decide +kernel
theorem dX7_noteFar_38 : decode YX7_noteFar.2.1 38 = .ok (.return_, 1) := by decide +kernel
theorem dX7_personName_0 : decode YX7_personName.2.1 0 = .ok (.aload_n 0, 1) := by decide +kernel
theorem dX7_personName_1 : decode YX7_personName.2.1 1 = .ok (.iload_n 1, 1) := by decide +kernel
theorem dX7_personName_2 : decode YX7_personName.2.1 2 = .ok (.invokevirtual 39, 3) := by decide +kernel
theorem dX7_personName_5 : decode YX7_personName.2.1 5 = .ok (.ifCond .eq 12, 3) := by decide +kernel
theorem dX7_personName_8 : decode YX7_personName.2.1 8 = .ok (.aload_n 0, 1) := by decide +kernel
theorem dX7_personName_9 : decode YX7_personName.2.1 9 = .ok (.getfield 15, 3) := by decide +kernel
theorem dX7_personName_12 : decode YX7_personName.2.1 12 = .ok (.iload_n 1, 1) := by decide +kernel
theorem dX7_personName_13 : decode YX7_personName.2.1 13 = .ok (.laload, 1) := by decide +kernel
theorem dX7_personName_14 : decode YX7_personName.2.1 14 = .ok (.goto 4, 3) := by decide +kernel
theorem dX7_personName_17 : decode YX7_personName.2.1 17 = .ok (.lconst 0, 1) := by decide +kernel
theorem dX7_personName_18 : decode YX7_personName.2.1 18 = .ok (.lreturn, 1) := by decide +kernel
theorem dX7_personNamed_0 : decode YX7_personNamed.2.1 0 = .ok (.iconst 0, 1) := by decide +kernel
theorem dX7_personNamed_1 : decode YX7_personNamed.2.1 1 = .ok (.istore_n 3, 1) := by decide +kernel
theorem dX7_personNamed_2 : decode YX7_personNamed.2.1 2 = .ok (.iload_n 3, 1) := by decide +kernel
theorem dX7_personNamed_3 : decode YX7_personNamed.2.1 3 = .ok (.aload_n 0, 1) := by decide +kernel
theorem dX7_personNamed_4 : decode YX7_personNamed.2.1 4 = .ok (.getfield 32, 3) := by decide +kernel
theorem dX7_personNamed_7 : decode YX7_personNamed.2.1 7 = .ok (.if_icmp .ge 28, 3) := by decide +kernel
theorem dX7_personNamed_10 : decode YX7_personNamed.2.1 10 = .ok (.iload_n 3, 1) := by decide +kernel
theorem dX7_personNamed_11 : decode YX7_personNamed.2.1 11 = .ok (.bipush 6, 2) := by decide +kernel
theorem dX7_personNamed_13 : decode YX7_personNamed.2.1 13 = .ok (.if_icmp .ge 22, 3) := by decide +kernel
theorem dX7_personNamed_16 : decode YX7_personNamed.2.1 16 = .ok (.aload_n 0, 1) := by decide +kernel
theorem dX7_personNamed_17 : decode YX7_personNamed.2.1 17 = .ok (.getfield 15, 3) := by decide +kernel
theorem dX7_personNamed_20 : decode YX7_personNamed.2.1 20 = .ok (.iload_n 3, 1) := by decide +kernel
theorem dX7_personNamed_21 : decode YX7_personNamed.2.1 21 = .ok (.laload, 1) := by decide +kernel
theorem dX7_personNamed_22 : decode YX7_personNamed.2.1 22 = .ok (.lload_n 1, 1) := by decide +kernel
theorem dX7_personNamed_23 : decode YX7_personNamed.2.1 23 = .ok (.lcmp, 1) := by decide +kernel
theorem dX7_personNamed_24 : decode YX7_personNamed.2.1 24 = .ok (.ifCond .ne 5, 3) := by decide +kernel
theorem dX7_personNamed_27 : decode YX7_personNamed.2.1 27 = .ok (.iload_n 3, 1) := by decide +kernel
theorem dX7_personNamed_28 : decode YX7_personNamed.2.1 28 = .ok (.ireturn, 1) := by decide +kernel
theorem dX7_personNamed_29 : decode YX7_personNamed.2.1 29 = .ok (.iinc 3 1, 3) := by decide +kernel
theorem dX7_personNamed_32 : decode YX7_personNamed.2.1 32 = .ok (.goto (-30), 3) := by decide +kernel
theorem dX7_personNamed_35 : decode YX7_personNamed.2.1 35 = .ok (.iconst (-1), 1) := by decide +kernel
theorem dX7_personNamed_36 : decode YX7_personNamed.2.1 36 = .ok (.ireturn, 1) := by decide +kernel
theorem dX7_persons_0 : decode YX7_persons.2.1 0 = .ok (.aload_n 0, 1) := by decide +kernel
theorem dX7_persons_1 : decode YX7_persons.2.1 1 = .ok (.getfield 32, 3) := by decide +kernel
theorem dX7_persons_4 : decode YX7_persons.2.1 4 = .ok (.ireturn, 1) := by decide +kernel
theorem dX7_reached_0 : decode YX7_reached.2.1 0 = .ok (.iconst 1, 1) := by decide +kernel
theorem dX7_reached_1 : decode YX7_reached.2.1 1 = .ok (.iload_n 1, 1) := by decide +kernel
theorem dX7_reached_2 : decode YX7_reached.2.1 2 = .ok (.ishl, 1) := by decide +kernel
theorem dX7_reached_3 : decode YX7_reached.2.1 3 = .ok (.istore_n 3, 1) := by decide +kernel
theorem dX7_reached_4 : decode YX7_reached.2.1 4 = .ok (.iconst 0, 1) := by decide +kernel
theorem dX7_reached_5 : decode YX7_reached.2.1 5 = .ok (.istore 4, 2) := by decide +kernel
theorem dX7_reached_7 : decode YX7_reached.2.1 7 = .ok (.iload 4, 2) := by decide +kernel
theorem dX7_reached_9 : decode YX7_reached.2.1 9 = .ok (.bipush 8, 2) := by decide +kernel
theorem dX7_reached_11 : decode YX7_reached.2.1 11 = .ok (.if_icmp .ge 21, 3) := by decide +kernel
theorem dX7_reached_14 : decode YX7_reached.2.1 14 = .ok (.iload_n 3, 1) := by decide +kernel
theorem dX7_reached_15 : decode YX7_reached.2.1 15 = .ok (.aload_n 0, 1) := by decide +kernel
theorem dX7_reached_16 : decode YX7_reached.2.1 16 = .ok (.iload_n 3, 1) := by decide +kernel
theorem dX7_reached_17 : decode YX7_reached.2.1 17 = .ok (.invokevirtual 62, 3) := by decide +kernel
theorem dX7_reached_20 : decode YX7_reached.2.1 20 = .ok (.iload_n 2, 1) := by decide +kernel
theorem dX7_reached_21 : decode YX7_reached.2.1 21 = .ok (.iconst (-1), 1) := by decide +kernel
theorem dX7_reached_22 : decode YX7_reached.2.1 22 = .ok (.ixor, 1) := by decide +kernel
theorem dX7_reached_23 : decode YX7_reached.2.1 23 = .ok (.iand, 1) := by decide +kernel
theorem dX7_reached_24 : decode YX7_reached.2.1 24 = .ok (.ior, 1) := by decide +kernel
theorem dX7_reached_25 : decode YX7_reached.2.1 25 = .ok (.istore_n 3, 1) := by decide +kernel
theorem dX7_reached_26 : decode YX7_reached.2.1 26 = .ok (.iinc 4 1, 3) := by decide +kernel
theorem dX7_reached_29 : decode YX7_reached.2.1 29 = .ok (.goto (-22), 3) := by decide +kernel
theorem dX7_reached_32 : decode YX7_reached.2.1 32 = .ok (.iload_n 3, 1) := by decide +kernel
theorem dX7_reached_33 : decode YX7_reached.2.1 33 = .ok (.ireturn, 1) := by decide +kernel
theorem dX7_readCorner_0 : decode YX7_readCorner.2.1 0 = .ok (.aload_n 0, 1) := by decide +kernel
theorem dX7_readCorner_1 : decode YX7_readCorner.2.1 1 = .ok (.getfield 25, 3) := by decide +kernel
theorem dX7_readCorner_4 : decode YX7_readCorner.2.1 4 = .ok (.bipush 8, 2) := by decide +kernel
theorem dX7_readCorner_6 : decode YX7_readCorner.2.1 6 = .ok (.if_icmp .lt 9, 3) := by decide +kernel
theorem dX7_readCorner_9 : decode YX7_readCorner.2.1 9 = .ok (.aload_n 1, 1) := by decide +kernel
theorem dX7_readCorner_10 : decode YX7_readCorner.2.1 10 = .ok (.iconst 4, 1) := by decide +kernel
theorem dX7_readCorner_11 : decode YX7_readCorner.2.1 11 = .ok (.invokevirtual 123, 3) := by decide +kernel
theorem dX7_readCorner_14 : decode YX7_readCorner.2.1 14 = .ok (.return_, 1) := by decide +kernel
theorem dX7_readCorner_15 : decode YX7_readCorner.2.1 15 = .ok (.aload_n 1, 1) := by decide +kernel
theorem dX7_readCorner_16 : decode YX7_readCorner.2.1 16 = .ok (.invokevirtual 126, 3) := by decide +kernel
theorem dX7_readCorner_19 : decode YX7_readCorner.2.1 19 = .ok (.aload_n 0, 1) := by decide +kernel
theorem dX7_readCorner_20 : decode YX7_readCorner.2.1 20 = .ok (.aload_n 1, 1) := by decide +kernel
theorem dX7_readCorner_21 : decode YX7_readCorner.2.1 21 = .ok (.invokevirtual 129, 3) := by decide +kernel
theorem dX7_readCorner_24 : decode YX7_readCorner.2.1 24 = .ok (.ifCond .eq 26, 3) := by decide +kernel
theorem dX7_readCorner_27 : decode YX7_readCorner.2.1 27 = .ok (.aload_n 0, 1) := by decide +kernel
theorem dX7_readCorner_28 : decode YX7_readCorner.2.1 28 = .ok (.getfield 9, 3) := by decide +kernel
theorem dX7_readCorner_31 : decode YX7_readCorner.2.1 31 = .ok (.aload_n 0, 1) := by decide +kernel
theorem dX7_readCorner_32 : decode YX7_readCorner.2.1 32 = .ok (.getfield 25, 3) := by decide +kernel
theorem dX7_readCorner_35 : decode YX7_readCorner.2.1 35 = .ok (.aload_n 1, 1) := by decide +kernel
theorem dX7_readCorner_36 : decode YX7_readCorner.2.1 36 = .ok (.invokevirtual 133, 3) := by decide +kernel
theorem dX7_readCorner_39 : decode YX7_readCorner.2.1 39 = .ok (.lastore, 1) := by decide +kernel
theorem dX7_readCorner_40 : decode YX7_readCorner.2.1 40 = .ok (.aload_n 0, 1) := by decide +kernel
theorem dX7_readCorner_41 : decode YX7_readCorner.2.1 41 = .ok (.dup, 1) := by decide +kernel
theorem dX7_readCorner_42 : decode YX7_readCorner.2.1 42 = .ok (.getfield 25, 3) := by decide +kernel
theorem dX7_readCorner_45 : decode YX7_readCorner.2.1 45 = .ok (.iconst 1, 1) := by decide +kernel
theorem dX7_readCorner_46 : decode YX7_readCorner.2.1 46 = .ok (.iadd, 1) := by decide +kernel
theorem dX7_readCorner_47 : decode YX7_readCorner.2.1 47 = .ok (.putfield 25, 3) := by decide +kernel
theorem dX7_readCorner_50 : decode YX7_readCorner.2.1 50 = .ok (.aload_n 1, 1) := by decide +kernel
theorem dX7_readCorner_51 : decode YX7_readCorner.2.1 51 = .ok (.invokevirtual 126, 3) := by decide +kernel
theorem dX7_readCorner_54 : decode YX7_readCorner.2.1 54 = .ok (.return_, 1) := by decide +kernel
theorem dX7_readFollows_0 : decode YX7_readFollows.2.1 0 = .ok (.aload_n 1, 1) := by decide +kernel
theorem dX7_readFollows_1 : decode YX7_readFollows.2.1 1 = .ok (.invokevirtual 126, 3) := by decide +kernel
theorem dX7_readFollows_4 : decode YX7_readFollows.2.1 4 = .ok (.aload_n 1, 1) := by decide +kernel
theorem dX7_readFollows_5 : decode YX7_readFollows.2.1 5 = .ok (.aload_n 0, 1) := by decide +kernel
theorem dX7_readFollows_6 : decode YX7_readFollows.2.1 6 = .ok (.invokevirtual 161, 3) := by decide +kernel
theorem dX7_readFollows_9 : decode YX7_readFollows.2.1 9 = .ok (.istore_n 3, 1) := by decide +kernel
theorem dX7_readFollows_10 : decode YX7_readFollows.2.1 10 = .ok (.aload_n 2, 1) := by decide +kernel
theorem dX7_readFollows_11 : decode YX7_readFollows.2.1 11 = .ok (.iload_n 3, 1) := by decide +kernel
theorem dX7_readFollows_12 : decode YX7_readFollows.2.1 12 = .ok (.invokevirtual 164, 3) := by decide +kernel
theorem dX7_readFollows_15 : decode YX7_readFollows.2.1 15 = .ok (.iconst (-1), 1) := by decide +kernel
theorem dX7_readFollows_16 : decode YX7_readFollows.2.1 16 = .ok (.if_icmp .ne 11, 3) := by decide +kernel
theorem dX7_readFollows_19 : decode YX7_readFollows.2.1 19 = .ok (.aload_n 2, 1) := by decide +kernel
theorem dX7_readFollows_20 : decode YX7_readFollows.2.1 20 = .ok (.iload_n 3, 1) := by decide +kernel
theorem dX7_readFollows_21 : decode YX7_readFollows.2.1 21 = .ok (.invokevirtual 167, 3) := by decide +kernel
theorem dX7_readFollows_24 : decode YX7_readFollows.2.1 24 = .ok (.ifCond .le 8, 3) := by decide +kernel
theorem dX7_readFollows_27 : decode YX7_readFollows.2.1 27 = .ok (.aload_n 1, 1) := by decide +kernel
theorem dX7_readFollows_28 : decode YX7_readFollows.2.1 28 = .ok (.iconst 3, 1) := by decide +kernel
theorem dX7_readFollows_29 : decode YX7_readFollows.2.1 29 = .ok (.invokevirtual 123, 3) := by decide +kernel
theorem dX7_readFollows_32 : decode YX7_readFollows.2.1 32 = .ok (.aload_n 1, 1) := by decide +kernel
theorem dX7_readFollows_33 : decode YX7_readFollows.2.1 33 = .ok (.invokevirtual 126, 3) := by decide +kernel
theorem dX7_readFollows_36 : decode YX7_readFollows.2.1 36 = .ok (.aload_n 1, 1) := by decide +kernel
theorem dX7_readFollows_37 : decode YX7_readFollows.2.1 37 = .ok (.aload_n 0, 1) := by decide +kernel
theorem dX7_readFollows_38 : decode YX7_readFollows.2.1 38 = .ok (.invokevirtual 161, 3) := by decide +kernel
theorem dX7_readFollows_41 : decode YX7_readFollows.2.1 41 = .ok (.istore 4, 2) := by decide +kernel
theorem dX7_readFollows_43 : decode YX7_readFollows.2.1 43 = .ok (.iload_n 3, 1) := by decide +kernel
theorem dX7_readFollows_44 : decode YX7_readFollows.2.1 44 = .ok (.iload 4, 2) := by decide +kernel
theorem dX7_readFollows_46 : decode YX7_readFollows.2.1 46 = .ok (.if_icmp .ne 8, 3) := by decide +kernel
theorem dX7_readFollows_49 : decode YX7_readFollows.2.1 49 = .ok (.aload_n 1, 1) := by decide +kernel
theorem dX7_readFollows_50 : decode YX7_readFollows.2.1 50 = .ok (.iconst 3, 1) := by decide +kernel
theorem dX7_readFollows_51 : decode YX7_readFollows.2.1 51 = .ok (.invokevirtual 123, 3) := by decide +kernel
theorem dX7_readFollows_54 : decode YX7_readFollows.2.1 54 = .ok (.aload_n 1, 1) := by decide +kernel
theorem dX7_readFollows_55 : decode YX7_readFollows.2.1 55 = .ok (.invokevirtual 126, 3) := by decide +kernel
theorem dX7_readFollows_58 : decode YX7_readFollows.2.1 58 = .ok (.aload_n 1, 1) := by decide +kernel
theorem dX7_readFollows_59 : decode YX7_readFollows.2.1 59 = .ok (.iconst 1, 1) := by decide +kernel
theorem dX7_readFollows_60 : decode YX7_readFollows.2.1 60 = .ok (.iconst 5, 1) := by decide +kernel
theorem dX7_readFollows_61 : decode YX7_readFollows.2.1 61 = .ok (.invokevirtual 154, 3) := by decide +kernel
theorem dX7_readFollows_64 : decode YX7_readFollows.2.1 64 = .ok (.istore 5, 2) := by decide +kernel
theorem dX7_readFollows_66 : decode YX7_readFollows.2.1 66 = .ok (.aload_n 1, 1) := by decide +kernel
theorem dX7_readFollows_67 : decode YX7_readFollows.2.1 67 = .ok (.invokevirtual 83, 3) := by decide +kernel
theorem dX7_readFollows_70 : decode YX7_readFollows.2.1 70 = .ok (.ifCond .eq 13, 3) := by decide +kernel
theorem dX7_readFollows_73 : decode YX7_readFollows.2.1 73 = .ok (.aload_n 2, 1) := by decide +kernel
theorem dX7_readFollows_74 : decode YX7_readFollows.2.1 74 = .ok (.iload 4, 2) := by decide +kernel
theorem dX7_readFollows_76 : decode YX7_readFollows.2.1 76 = .ok (.iload_n 3, 1) := by decide +kernel
theorem dX7_readFollows_77 : decode YX7_readFollows.2.1 77 = .ok (.iload 5, 2) := by decide +kernel
theorem dX7_readFollows_79 : decode YX7_readFollows.2.1 79 = .ok (.invokevirtual 174, 3) := by decide +kernel
theorem dX7_readFollows_82 : decode YX7_readFollows.2.1 82 = .ok (.pop, 1) := by decide +kernel
theorem dX7_readFollows_83 : decode YX7_readFollows.2.1 83 = .ok (.return_, 1) := by decide +kernel
theorem dX7_readFrom_0 : decode YX7_readFrom.2.1 0 = .ok (.aload_n 0, 1) := by decide +kernel
theorem dX7_readFrom_1 : decode YX7_readFrom.2.1 1 = .ok (.invokevirtual 77, 3) := by decide +kernel
theorem dX7_readFrom_4 : decode YX7_readFrom.2.1 4 = .ok (.aload_n 2, 1) := by decide +kernel
theorem dX7_readFrom_5 : decode YX7_readFrom.2.1 5 = .ok (.invokevirtual 80, 3) := by decide +kernel
theorem dX7_readFrom_8 : decode YX7_readFrom.2.1 8 = .ok (.iconst 0, 1) := by decide +kernel
theorem dX7_readFrom_9 : decode YX7_readFrom.2.1 9 = .ok (.istore_n 3, 1) := by decide +kernel
theorem dX7_readFrom_10 : decode YX7_readFrom.2.1 10 = .ok (.sipush 900, 3) := by decide +kernel
theorem dX7_readFrom_13 : decode YX7_readFrom.2.1 13 = .ok (.istore 4, 2) := by decide +kernel
theorem dX7_readFrom_15 : decode YX7_readFrom.2.1 15 = .ok (.iload_n 3, 1) := by decide +kernel
theorem dX7_readFrom_16 : decode YX7_readFrom.2.1 16 = .ok (.iload 4, 2) := by decide +kernel
theorem dX7_readFrom_18 : decode YX7_readFrom.2.1 18 = .ok (.if_icmp .ge 38, 3) := by decide +kernel
theorem dX7_readFrom_21 : decode YX7_readFrom.2.1 21 = .ok (.aload_n 1, 1) := by decide +kernel
theorem dX7_readFrom_22 : decode YX7_readFrom.2.1 22 = .ok (.invokevirtual 83, 3) := by decide +kernel
theorem dX7_readFrom_25 : decode YX7_readFrom.2.1 25 = .ok (.ifCond .eq 31, 3) := by decide +kernel
theorem dX7_readFrom_28 : decode YX7_readFrom.2.1 28 = .ok (.aload_n 1, 1) := by decide +kernel
theorem dX7_readFrom_29 : decode YX7_readFrom.2.1 29 = .ok (.invokevirtual 89, 3) := by decide +kernel
theorem dX7_readFrom_32 : decode YX7_readFrom.2.1 32 = .ok (.ifCond .eq 6, 3) := by decide +kernel
theorem dX7_readFrom_35 : decode YX7_readFrom.2.1 35 = .ok (.goto 21, 3) := by decide +kernel
theorem dX7_readFrom_38 : decode YX7_readFrom.2.1 38 = .ok (.aload_n 0, 1) := by decide +kernel
theorem dX7_readFrom_39 : decode YX7_readFrom.2.1 39 = .ok (.aload_n 1, 1) := by decide +kernel
theorem dX7_readFrom_40 : decode YX7_readFrom.2.1 40 = .ok (.aload_n 2, 1) := by decide +kernel
theorem dX7_readFrom_41 : decode YX7_readFrom.2.1 41 = .ok (.invokevirtual 92, 3) := by decide +kernel
theorem dX7_readFrom_44 : decode YX7_readFrom.2.1 44 = .ok (.aload_n 1, 1) := by decide +kernel
theorem dX7_readFrom_45 : decode YX7_readFrom.2.1 45 = .ok (.bipush 59, 2) := by decide +kernel
theorem dX7_readFrom_47 : decode YX7_readFrom.2.1 47 = .ok (.invokevirtual 96, 3) := by decide +kernel
theorem dX7_readFrom_50 : decode YX7_readFrom.2.1 50 = .ok (.iinc 3 1, 3) := by decide +kernel
theorem dX7_readFrom_53 : decode YX7_readFrom.2.1 53 = .ok (.goto (-38), 3) := by decide +kernel
theorem dX7_readFrom_56 : decode YX7_readFrom.2.1 56 = .ok (.aload_n 0, 1) := by decide +kernel
theorem dX7_readFrom_57 : decode YX7_readFrom.2.1 57 = .ok (.invokevirtual 100, 3) := by decide +kernel
theorem dX7_readFrom_60 : decode YX7_readFrom.2.1 60 = .ok (.iload_n 3, 1) := by decide +kernel
theorem dX7_readFrom_61 : decode YX7_readFrom.2.1 61 = .ok (.ireturn, 1) := by decide +kernel
theorem dX7_readLine_0 : decode YX7_readLine.2.1 0 = .ok (.aload_n 1, 1) := by decide +kernel
theorem dX7_readLine_1 : decode YX7_readLine.2.1 1 = .ok (.invokevirtual 103, 3) := by decide +kernel
theorem dX7_readLine_4 : decode YX7_readLine.2.1 4 = .ok (.tableswitch 79 0 4 #[36, 44, 52, 61, 70], 36) := by decide +kernel
theorem dX7_readLine_40 : decode YX7_readLine.2.1 40 = .ok (.aload_n 0, 1) := by decide +kernel
theorem dX7_readLine_41 : decode YX7_readLine.2.1 41 = .ok (.aload_n 1, 1) := by decide +kernel
theorem dX7_readLine_42 : decode YX7_readLine.2.1 42 = .ok (.invokevirtual 107, 3) := by decide +kernel
theorem dX7_readLine_45 : decode YX7_readLine.2.1 45 = .ok (.goto 43, 3) := by decide +kernel
theorem dX7_readLine_48 : decode YX7_readLine.2.1 48 = .ok (.aload_n 0, 1) := by decide +kernel
theorem dX7_readLine_49 : decode YX7_readLine.2.1 49 = .ok (.aload_n 1, 1) := by decide +kernel
theorem dX7_readLine_50 : decode YX7_readLine.2.1 50 = .ok (.invokevirtual 111, 3) := by decide +kernel
theorem dX7_readLine_53 : decode YX7_readLine.2.1 53 = .ok (.goto 35, 3) := by decide +kernel
theorem dX7_readLine_56 : decode YX7_readLine.2.1 56 = .ok (.aload_n 0, 1) := by decide +kernel
theorem dX7_readLine_57 : decode YX7_readLine.2.1 57 = .ok (.aload_n 1, 1) := by decide +kernel
theorem dX7_readLine_58 : decode YX7_readLine.2.1 58 = .ok (.aload_n 2, 1) := by decide +kernel
theorem dX7_readLine_59 : decode YX7_readLine.2.1 59 = .ok (.invokevirtual 114, 3) := by decide +kernel
theorem dX7_readLine_62 : decode YX7_readLine.2.1 62 = .ok (.goto 26, 3) := by decide +kernel
theorem dX7_readLine_65 : decode YX7_readLine.2.1 65 = .ok (.aload_n 0, 1) := by decide +kernel
theorem dX7_readLine_66 : decode YX7_readLine.2.1 66 = .ok (.aload_n 1, 1) := by decide +kernel
theorem dX7_readLine_67 : decode YX7_readLine.2.1 67 = .ok (.aload_n 2, 1) := by decide +kernel
theorem dX7_readLine_68 : decode YX7_readLine.2.1 68 = .ok (.invokevirtual 117, 3) := by decide +kernel
theorem dX7_readLine_71 : decode YX7_readLine.2.1 71 = .ok (.goto 17, 3) := by decide +kernel
theorem dX7_readLine_74 : decode YX7_readLine.2.1 74 = .ok (.aload_n 0, 1) := by decide +kernel
theorem dX7_readLine_75 : decode YX7_readLine.2.1 75 = .ok (.aload_n 1, 1) := by decide +kernel
theorem dX7_readLine_76 : decode YX7_readLine.2.1 76 = .ok (.aload_n 2, 1) := by decide +kernel
theorem dX7_readLine_77 : decode YX7_readLine.2.1 77 = .ok (.invokevirtual 120, 3) := by decide +kernel
theorem dX7_readLine_80 : decode YX7_readLine.2.1 80 = .ok (.goto 8, 3) := by decide +kernel
theorem dX7_readLine_83 : decode YX7_readLine.2.1 83 = .ok (.aload_n 1, 1) := by decide +kernel
theorem dX7_readLine_84 : decode YX7_readLine.2.1 84 = .ok (.iconst 1, 1) := by decide +kernel
theorem dX7_readLine_85 : decode YX7_readLine.2.1 85 = .ok (.invokevirtual 123, 3) := by decide +kernel
theorem dX7_readLine_88 : decode YX7_readLine.2.1 88 = .ok (.return_, 1) := by decide +kernel
theorem dX7_readNext_0 : decode YX7_readNext.2.1 0 = .ok (.aload_n 1, 1) := by decide +kernel
theorem dX7_readNext_1 : decode YX7_readNext.2.1 1 = .ok (.invokevirtual 126, 3) := by decide +kernel
theorem dX7_readNext_4 : decode YX7_readNext.2.1 4 = .ok (.aload_n 1, 1) := by decide +kernel
theorem dX7_readNext_5 : decode YX7_readNext.2.1 5 = .ok (.aload_n 0, 1) := by decide +kernel
theorem dX7_readNext_6 : decode YX7_readNext.2.1 6 = .ok (.invokevirtual 161, 3) := by decide +kernel
theorem dX7_readNext_9 : decode YX7_readNext.2.1 9 = .ok (.istore_n 3, 1) := by decide +kernel
theorem dX7_readNext_10 : decode YX7_readNext.2.1 10 = .ok (.aload_n 2, 1) := by decide +kernel
theorem dX7_readNext_11 : decode YX7_readNext.2.1 11 = .ok (.iload_n 3, 1) := by decide +kernel
theorem dX7_readNext_12 : decode YX7_readNext.2.1 12 = .ok (.invokevirtual 164, 3) := by decide +kernel
theorem dX7_readNext_15 : decode YX7_readNext.2.1 15 = .ok (.iconst (-1), 1) := by decide +kernel
theorem dX7_readNext_16 : decode YX7_readNext.2.1 16 = .ok (.if_icmp .eq 8, 3) := by decide +kernel
theorem dX7_readNext_19 : decode YX7_readNext.2.1 19 = .ok (.aload_n 1, 1) := by decide +kernel
theorem dX7_readNext_20 : decode YX7_readNext.2.1 20 = .ok (.iconst 3, 1) := by decide +kernel
theorem dX7_readNext_21 : decode YX7_readNext.2.1 21 = .ok (.invokevirtual 123, 3) := by decide +kernel
theorem dX7_readNext_24 : decode YX7_readNext.2.1 24 = .ok (.aload_n 2, 1) := by decide +kernel
theorem dX7_readNext_25 : decode YX7_readNext.2.1 25 = .ok (.iload_n 3, 1) := by decide +kernel
theorem dX7_readNext_26 : decode YX7_readNext.2.1 26 = .ok (.invokevirtual 167, 3) := by decide +kernel
theorem dX7_readNext_29 : decode YX7_readNext.2.1 29 = .ok (.bipush 8, 2) := by decide +kernel
theorem dX7_readNext_31 : decode YX7_readNext.2.1 31 = .ok (.if_icmp .lt 8, 3) := by decide +kernel
theorem dX7_readNext_34 : decode YX7_readNext.2.1 34 = .ok (.aload_n 1, 1) := by decide +kernel
theorem dX7_readNext_35 : decode YX7_readNext.2.1 35 = .ok (.iconst 4, 1) := by decide +kernel
theorem dX7_readNext_36 : decode YX7_readNext.2.1 36 = .ok (.invokevirtual 123, 3) := by decide +kernel
theorem dX7_readNext_39 : decode YX7_readNext.2.1 39 = .ok (.aload_n 1, 1) := by decide +kernel
theorem dX7_readNext_40 : decode YX7_readNext.2.1 40 = .ok (.invokevirtual 126, 3) := by decide +kernel
theorem dX7_readNext_43 : decode YX7_readNext.2.1 43 = .ok (.aload_n 1, 1) := by decide +kernel
theorem dX7_readNext_44 : decode YX7_readNext.2.1 44 = .ok (.aload_n 0, 1) := by decide +kernel
theorem dX7_readNext_45 : decode YX7_readNext.2.1 45 = .ok (.invokevirtual 147, 3) := by decide +kernel
theorem dX7_readNext_48 : decode YX7_readNext.2.1 48 = .ok (.istore 4, 2) := by decide +kernel
theorem dX7_readNext_50 : decode YX7_readNext.2.1 50 = .ok (.aload_n 1, 1) := by decide +kernel
theorem dX7_readNext_51 : decode YX7_readNext.2.1 51 = .ok (.invokevirtual 83, 3) := by decide +kernel
theorem dX7_readNext_54 : decode YX7_readNext.2.1 54 = .ok (.ifCond .eq 19, 3) := by decide +kernel
theorem dX7_readNext_57 : decode YX7_readNext.2.1 57 = .ok (.aload_n 2, 1) := by decide +kernel
theorem dX7_readNext_58 : decode YX7_readNext.2.1 58 = .ok (.aload_n 0, 1) := by decide +kernel
theorem dX7_readNext_59 : decode YX7_readNext.2.1 59 = .ok (.iload_n 3, 1) := by decide +kernel
theorem dX7_readNext_60 : decode YX7_readNext.2.1 60 = .ok (.iload 4, 2) := by decide +kernel
theorem dX7_readNext_62 : decode YX7_readNext.2.1 62 = .ok (.invokevirtual 170, 3) := by decide +kernel
theorem dX7_readNext_65 : decode YX7_readNext.2.1 65 = .ok (.ifCond .eq 8, 3) := by decide +kernel
theorem dX7_readNext_68 : decode YX7_readNext.2.1 68 = .ok (.aload_n 1, 1) := by decide +kernel
theorem dX7_readNext_69 : decode YX7_readNext.2.1 69 = .ok (.iconst 3, 1) := by decide +kernel
theorem dX7_readNext_70 : decode YX7_readNext.2.1 70 = .ok (.invokevirtual 123, 3) := by decide +kernel
theorem dX7_readNext_73 : decode YX7_readNext.2.1 73 = .ok (.aload_n 1, 1) := by decide +kernel
theorem dX7_readNext_74 : decode YX7_readNext.2.1 74 = .ok (.invokevirtual 126, 3) := by decide +kernel
theorem dX7_readNext_77 : decode YX7_readNext.2.1 77 = .ok (.return_, 1) := by decide +kernel
theorem dX7_readPerson_0 : decode YX7_readPerson.2.1 0 = .ok (.aload_n 0, 1) := by decide +kernel
theorem dX7_readPerson_1 : decode YX7_readPerson.2.1 1 = .ok (.getfield 32, 3) := by decide +kernel
theorem dX7_readPerson_4 : decode YX7_readPerson.2.1 4 = .ok (.bipush 6, 2) := by decide +kernel
theorem dX7_readPerson_6 : decode YX7_readPerson.2.1 6 = .ok (.if_icmp .lt 9, 3) := by decide +kernel
theorem dX7_readPerson_9 : decode YX7_readPerson.2.1 9 = .ok (.aload_n 1, 1) := by decide +kernel
theorem dX7_readPerson_10 : decode YX7_readPerson.2.1 10 = .ok (.iconst 4, 1) := by decide +kernel
theorem dX7_readPerson_11 : decode YX7_readPerson.2.1 11 = .ok (.invokevirtual 123, 3) := by decide +kernel
theorem dX7_readPerson_14 : decode YX7_readPerson.2.1 14 = .ok (.return_, 1) := by decide +kernel
theorem dX7_readPerson_15 : decode YX7_readPerson.2.1 15 = .ok (.aload_n 1, 1) := by decide +kernel
theorem dX7_readPerson_16 : decode YX7_readPerson.2.1 16 = .ok (.invokevirtual 126, 3) := by decide +kernel
theorem dX7_readPerson_19 : decode YX7_readPerson.2.1 19 = .ok (.aload_n 0, 1) := by decide +kernel
theorem dX7_readPerson_20 : decode YX7_readPerson.2.1 20 = .ok (.aload_n 1, 1) := by decide +kernel
theorem dX7_readPerson_21 : decode YX7_readPerson.2.1 21 = .ok (.invokevirtual 129, 3) := by decide +kernel
theorem dX7_readPerson_24 : decode YX7_readPerson.2.1 24 = .ok (.pop, 1) := by decide +kernel
theorem dX7_readPerson_25 : decode YX7_readPerson.2.1 25 = .ok (.aload_n 1, 1) := by decide +kernel
theorem dX7_readPerson_26 : decode YX7_readPerson.2.1 26 = .ok (.invokevirtual 133, 3) := by decide +kernel
theorem dX7_readPerson_29 : decode YX7_readPerson.2.1 29 = .ok (.lstore_n 3, 1) := by decide +kernel
theorem dX7_readPerson_30 : decode YX7_readPerson.2.1 30 = .ok (.aload_n 1, 1) := by decide +kernel
theorem dX7_readPerson_31 : decode YX7_readPerson.2.1 31 = .ok (.invokevirtual 126, 3) := by decide +kernel
theorem dX7_readPerson_34 : decode YX7_readPerson.2.1 34 = .ok (.aload_n 1, 1) := by decide +kernel
theorem dX7_readPerson_35 : decode YX7_readPerson.2.1 35 = .ok (.aload_n 0, 1) := by decide +kernel
theorem dX7_readPerson_36 : decode YX7_readPerson.2.1 36 = .ok (.invokevirtual 147, 3) := by decide +kernel
theorem dX7_readPerson_39 : decode YX7_readPerson.2.1 39 = .ok (.istore 5, 2) := by decide +kernel
theorem dX7_readPerson_41 : decode YX7_readPerson.2.1 41 = .ok (.aload_n 1, 1) := by decide +kernel
theorem dX7_readPerson_42 : decode YX7_readPerson.2.1 42 = .ok (.invokevirtual 126, 3) := by decide +kernel
theorem dX7_readPerson_45 : decode YX7_readPerson.2.1 45 = .ok (.aload_n 1, 1) := by decide +kernel
theorem dX7_readPerson_46 : decode YX7_readPerson.2.1 46 = .ok (.iconst 0, 1) := by decide +kernel
theorem dX7_readPerson_47 : decode YX7_readPerson.2.1 47 = .ok (.bipush 9, 2) := by decide +kernel
theorem dX7_readPerson_49 : decode YX7_readPerson.2.1 49 = .ok (.invokevirtual 154, 3) := by decide +kernel
theorem dX7_readPerson_52 : decode YX7_readPerson.2.1 52 = .ok (.istore 6, 2) := by decide +kernel
theorem dX7_readPerson_54 : decode YX7_readPerson.2.1 54 = .ok (.aload_n 1, 1) := by decide +kernel
theorem dX7_readPerson_55 : decode YX7_readPerson.2.1 55 = .ok (.invokevirtual 83, 3) := by decide +kernel
theorem dX7_readPerson_58 : decode YX7_readPerson.2.1 58 = .ok (.ifCond .eq 35, 3) := by decide +kernel
theorem dX7_readPerson_61 : decode YX7_readPerson.2.1 61 = .ok (.aload_n 0, 1) := by decide +kernel
theorem dX7_readPerson_62 : decode YX7_readPerson.2.1 62 = .ok (.getfield 15, 3) := by decide +kernel
theorem dX7_readPerson_65 : decode YX7_readPerson.2.1 65 = .ok (.aload_n 0, 1) := by decide +kernel
theorem dX7_readPerson_66 : decode YX7_readPerson.2.1 66 = .ok (.getfield 32, 3) := by decide +kernel
theorem dX7_readPerson_69 : decode YX7_readPerson.2.1 69 = .ok (.lload_n 3, 1) := by decide +kernel
theorem dX7_readPerson_70 : decode YX7_readPerson.2.1 70 = .ok (.lastore, 1) := by decide +kernel
theorem dX7_readPerson_71 : decode YX7_readPerson.2.1 71 = .ok (.aload_n 2, 1) := by decide +kernel
theorem dX7_readPerson_72 : decode YX7_readPerson.2.1 72 = .ok (.aload_n 0, 1) := by decide +kernel
theorem dX7_readPerson_73 : decode YX7_readPerson.2.1 73 = .ok (.getfield 32, 3) := by decide +kernel
theorem dX7_readPerson_76 : decode YX7_readPerson.2.1 76 = .ok (.iload 5, 2) := by decide +kernel
theorem dX7_readPerson_78 : decode YX7_readPerson.2.1 78 = .ok (.iload 6, 2) := by decide +kernel
theorem dX7_readPerson_80 : decode YX7_readPerson.2.1 80 = .ok (.invokevirtual 157, 3) := by decide +kernel
theorem dX7_readPerson_83 : decode YX7_readPerson.2.1 83 = .ok (.aload_n 0, 1) := by decide +kernel
theorem dX7_readPerson_84 : decode YX7_readPerson.2.1 84 = .ok (.dup, 1) := by decide +kernel
theorem dX7_readPerson_85 : decode YX7_readPerson.2.1 85 = .ok (.getfield 32, 3) := by decide +kernel
theorem dX7_readPerson_88 : decode YX7_readPerson.2.1 88 = .ok (.iconst 1, 1) := by decide +kernel
theorem dX7_readPerson_89 : decode YX7_readPerson.2.1 89 = .ok (.iadd, 1) := by decide +kernel
theorem dX7_readPerson_90 : decode YX7_readPerson.2.1 90 = .ok (.putfield 32, 3) := by decide +kernel
theorem dX7_readPerson_93 : decode YX7_readPerson.2.1 93 = .ok (.return_, 1) := by decide +kernel
theorem dX7_readStreet_0 : decode YX7_readStreet.2.1 0 = .ok (.aload_n 0, 1) := by decide +kernel
theorem dX7_readStreet_1 : decode YX7_readStreet.2.1 1 = .ok (.getfield 29, 3) := by decide +kernel
theorem dX7_readStreet_4 : decode YX7_readStreet.2.1 4 = .ok (.bipush 14, 2) := by decide +kernel
theorem dX7_readStreet_6 : decode YX7_readStreet.2.1 6 = .ok (.if_icmp .lt 9, 3) := by decide +kernel
theorem dX7_readStreet_9 : decode YX7_readStreet.2.1 9 = .ok (.aload_n 1, 1) := by decide +kernel
theorem dX7_readStreet_10 : decode YX7_readStreet.2.1 10 = .ok (.iconst 4, 1) := by decide +kernel
theorem dX7_readStreet_11 : decode YX7_readStreet.2.1 11 = .ok (.invokevirtual 123, 3) := by decide +kernel
theorem dX7_readStreet_14 : decode YX7_readStreet.2.1 14 = .ok (.return_, 1) := by decide +kernel
theorem dX7_readStreet_15 : decode YX7_readStreet.2.1 15 = .ok (.aload_n 1, 1) := by decide +kernel
theorem dX7_readStreet_16 : decode YX7_readStreet.2.1 16 = .ok (.invokevirtual 126, 3) := by decide +kernel
theorem dX7_readStreet_19 : decode YX7_readStreet.2.1 19 = .ok (.aload_n 1, 1) := by decide +kernel
theorem dX7_readStreet_20 : decode YX7_readStreet.2.1 20 = .ok (.aload_n 0, 1) := by decide +kernel
theorem dX7_readStreet_21 : decode YX7_readStreet.2.1 21 = .ok (.invokevirtual 147, 3) := by decide +kernel
theorem dX7_readStreet_24 : decode YX7_readStreet.2.1 24 = .ok (.istore_n 2, 1) := by decide +kernel
theorem dX7_readStreet_25 : decode YX7_readStreet.2.1 25 = .ok (.aload_n 1, 1) := by decide +kernel
theorem dX7_readStreet_26 : decode YX7_readStreet.2.1 26 = .ok (.invokevirtual 126, 3) := by decide +kernel
theorem dX7_readStreet_29 : decode YX7_readStreet.2.1 29 = .ok (.aload_n 1, 1) := by decide +kernel
theorem dX7_readStreet_30 : decode YX7_readStreet.2.1 30 = .ok (.aload_n 0, 1) := by decide +kernel
theorem dX7_readStreet_31 : decode YX7_readStreet.2.1 31 = .ok (.invokevirtual 147, 3) := by decide +kernel
theorem dX7_readStreet_34 : decode YX7_readStreet.2.1 34 = .ok (.istore_n 3, 1) := by decide +kernel
theorem dX7_readStreet_35 : decode YX7_readStreet.2.1 35 = .ok (.iload_n 2, 1) := by decide +kernel
theorem dX7_readStreet_36 : decode YX7_readStreet.2.1 36 = .ok (.iload_n 3, 1) := by decide +kernel
theorem dX7_readStreet_37 : decode YX7_readStreet.2.1 37 = .ok (.if_icmp .eq 12, 3) := by decide +kernel
theorem dX7_readStreet_40 : decode YX7_readStreet.2.1 40 = .ok (.aload_n 0, 1) := by decide +kernel
theorem dX7_readStreet_41 : decode YX7_readStreet.2.1 41 = .ok (.iload_n 2, 1) := by decide +kernel
theorem dX7_readStreet_42 : decode YX7_readStreet.2.1 42 = .ok (.iload_n 3, 1) := by decide +kernel
theorem dX7_readStreet_43 : decode YX7_readStreet.2.1 43 = .ok (.invokevirtual 151, 3) := by decide +kernel
theorem dX7_readStreet_46 : decode YX7_readStreet.2.1 46 = .ok (.ifCond .eq 8, 3) := by decide +kernel
theorem dX7_readStreet_49 : decode YX7_readStreet.2.1 49 = .ok (.aload_n 1, 1) := by decide +kernel
theorem dX7_readStreet_50 : decode YX7_readStreet.2.1 50 = .ok (.iconst 3, 1) := by decide +kernel
theorem dX7_readStreet_51 : decode YX7_readStreet.2.1 51 = .ok (.invokevirtual 123, 3) := by decide +kernel
theorem dX7_readStreet_54 : decode YX7_readStreet.2.1 54 = .ok (.aload_n 1, 1) := by decide +kernel
theorem dX7_readStreet_55 : decode YX7_readStreet.2.1 55 = .ok (.invokevirtual 126, 3) := by decide +kernel
theorem dX7_readStreet_58 : decode YX7_readStreet.2.1 58 = .ok (.aload_n 1, 1) := by decide +kernel
theorem dX7_readStreet_59 : decode YX7_readStreet.2.1 59 = .ok (.invokevirtual 83, 3) := by decide +kernel
theorem dX7_readStreet_62 : decode YX7_readStreet.2.1 62 = .ok (.ifCond .eq 53, 3) := by decide +kernel
theorem dX7_readStreet_65 : decode YX7_readStreet.2.1 65 = .ok (.aload_n 0, 1) := by decide +kernel
theorem dX7_readStreet_66 : decode YX7_readStreet.2.1 66 = .ok (.iload_n 2, 1) := by decide +kernel
theorem dX7_readStreet_67 : decode YX7_readStreet.2.1 67 = .ok (.invokevirtual 35, 3) := by decide +kernel
theorem dX7_readStreet_70 : decode YX7_readStreet.2.1 70 = .ok (.ifCond .eq 45, 3) := by decide +kernel
theorem dX7_readStreet_73 : decode YX7_readStreet.2.1 73 = .ok (.aload_n 0, 1) := by decide +kernel
theorem dX7_readStreet_74 : decode YX7_readStreet.2.1 74 = .ok (.iload_n 3, 1) := by decide +kernel
theorem dX7_readStreet_75 : decode YX7_readStreet.2.1 75 = .ok (.invokevirtual 35, 3) := by decide +kernel
theorem dX7_readStreet_78 : decode YX7_readStreet.2.1 78 = .ok (.ifCond .eq 37, 3) := by decide +kernel
theorem dX7_readStreet_81 : decode YX7_readStreet.2.1 81 = .ok (.aload_n 0, 1) := by decide +kernel
theorem dX7_readStreet_82 : decode YX7_readStreet.2.1 82 = .ok (.getfield 18, 3) := by decide +kernel
theorem dX7_readStreet_85 : decode YX7_readStreet.2.1 85 = .ok (.iload_n 2, 1) := by decide +kernel
theorem dX7_readStreet_86 : decode YX7_readStreet.2.1 86 = .ok (.dup2, 1) := by decide +kernel
theorem dX7_readStreet_87 : decode YX7_readStreet.2.1 87 = .ok (.iaload, 1) := by decide +kernel
theorem dX7_readStreet_88 : decode YX7_readStreet.2.1 88 = .ok (.iconst 1, 1) := by decide +kernel
theorem dX7_readStreet_89 : decode YX7_readStreet.2.1 89 = .ok (.iload_n 3, 1) := by decide +kernel
theorem dX7_readStreet_90 : decode YX7_readStreet.2.1 90 = .ok (.ishl, 1) := by decide +kernel
theorem dX7_readStreet_91 : decode YX7_readStreet.2.1 91 = .ok (.ior, 1) := by decide +kernel
theorem dX7_readStreet_92 : decode YX7_readStreet.2.1 92 = .ok (.iastore, 1) := by decide +kernel
theorem dX7_readStreet_93 : decode YX7_readStreet.2.1 93 = .ok (.aload_n 0, 1) := by decide +kernel
theorem dX7_readStreet_94 : decode YX7_readStreet.2.1 94 = .ok (.getfield 18, 3) := by decide +kernel
theorem dX7_readStreet_97 : decode YX7_readStreet.2.1 97 = .ok (.iload_n 3, 1) := by decide +kernel
theorem dX7_readStreet_98 : decode YX7_readStreet.2.1 98 = .ok (.dup2, 1) := by decide +kernel
theorem dX7_readStreet_99 : decode YX7_readStreet.2.1 99 = .ok (.iaload, 1) := by decide +kernel
theorem dX7_readStreet_100 : decode YX7_readStreet.2.1 100 = .ok (.iconst 1, 1) := by decide +kernel
theorem dX7_readStreet_101 : decode YX7_readStreet.2.1 101 = .ok (.iload_n 2, 1) := by decide +kernel
theorem dX7_readStreet_102 : decode YX7_readStreet.2.1 102 = .ok (.ishl, 1) := by decide +kernel
theorem dX7_readStreet_103 : decode YX7_readStreet.2.1 103 = .ok (.ior, 1) := by decide +kernel
theorem dX7_readStreet_104 : decode YX7_readStreet.2.1 104 = .ok (.iastore, 1) := by decide +kernel
theorem dX7_readStreet_105 : decode YX7_readStreet.2.1 105 = .ok (.aload_n 0, 1) := by decide +kernel
theorem dX7_readStreet_106 : decode YX7_readStreet.2.1 106 = .ok (.dup, 1) := by decide +kernel
theorem dX7_readStreet_107 : decode YX7_readStreet.2.1 107 = .ok (.getfield 29, 3) := by decide +kernel
theorem dX7_readStreet_110 : decode YX7_readStreet.2.1 110 = .ok (.iconst 1, 1) := by decide +kernel
theorem dX7_readStreet_111 : decode YX7_readStreet.2.1 111 = .ok (.iadd, 1) := by decide +kernel
theorem dX7_readStreet_112 : decode YX7_readStreet.2.1 112 = .ok (.putfield 29, 3) := by decide +kernel
theorem dX7_readStreet_115 : decode YX7_readStreet.2.1 115 = .ok (.return_, 1) := by decide +kernel
theorem dX7_stepTowards_0 : decode YX7_stepTowards.2.1 0 = .ok (.aload_n 0, 1) := by decide +kernel
theorem dX7_stepTowards_1 : decode YX7_stepTowards.2.1 1 = .ok (.iload_n 1, 1) := by decide +kernel
theorem dX7_stepTowards_2 : decode YX7_stepTowards.2.1 2 = .ok (.iload_n 2, 1) := by decide +kernel
theorem dX7_stepTowards_3 : decode YX7_stepTowards.2.1 3 = .ok (.invokevirtual 50, 3) := by decide +kernel
theorem dX7_stepTowards_6 : decode YX7_stepTowards.2.1 6 = .ok (.istore_n 3, 1) := by decide +kernel
theorem dX7_stepTowards_7 : decode YX7_stepTowards.2.1 7 = .ok (.iload_n 3, 1) := by decide +kernel
theorem dX7_stepTowards_8 : decode YX7_stepTowards.2.1 8 = .ok (.ifCond .le 48, 3) := by decide +kernel
theorem dX7_stepTowards_11 : decode YX7_stepTowards.2.1 11 = .ok (.iconst 0, 1) := by decide +kernel
theorem dX7_stepTowards_12 : decode YX7_stepTowards.2.1 12 = .ok (.istore 4, 2) := by decide +kernel
theorem dX7_stepTowards_14 : decode YX7_stepTowards.2.1 14 = .ok (.iload 4, 2) := by decide +kernel
theorem dX7_stepTowards_16 : decode YX7_stepTowards.2.1 16 = .ok (.bipush 8, 2) := by decide +kernel
theorem dX7_stepTowards_18 : decode YX7_stepTowards.2.1 18 = .ok (.if_icmp .ge 38, 3) := by decide +kernel
theorem dX7_stepTowards_21 : decode YX7_stepTowards.2.1 21 = .ok (.aload_n 0, 1) := by decide +kernel
theorem dX7_stepTowards_22 : decode YX7_stepTowards.2.1 22 = .ok (.iload_n 1, 1) := by decide +kernel
theorem dX7_stepTowards_23 : decode YX7_stepTowards.2.1 23 = .ok (.invokevirtual 42, 3) := by decide +kernel
theorem dX7_stepTowards_26 : decode YX7_stepTowards.2.1 26 = .ok (.iload 4, 2) := by decide +kernel
theorem dX7_stepTowards_28 : decode YX7_stepTowards.2.1 28 = .ok (.invokestatic 46, 3) := by decide +kernel
theorem dX7_stepTowards_31 : decode YX7_stepTowards.2.1 31 = .ok (.ifCond .eq 19, 3) := by decide +kernel
theorem dX7_stepTowards_34 : decode YX7_stepTowards.2.1 34 = .ok (.aload_n 0, 1) := by decide +kernel
theorem dX7_stepTowards_35 : decode YX7_stepTowards.2.1 35 = .ok (.iload 4, 2) := by decide +kernel
theorem dX7_stepTowards_37 : decode YX7_stepTowards.2.1 37 = .ok (.iload_n 2, 1) := by decide +kernel
theorem dX7_stepTowards_38 : decode YX7_stepTowards.2.1 38 = .ok (.invokevirtual 50, 3) := by decide +kernel
theorem dX7_stepTowards_41 : decode YX7_stepTowards.2.1 41 = .ok (.iload_n 3, 1) := by decide +kernel
theorem dX7_stepTowards_42 : decode YX7_stepTowards.2.1 42 = .ok (.iconst 1, 1) := by decide +kernel
theorem dX7_stepTowards_43 : decode YX7_stepTowards.2.1 43 = .ok (.isub, 1) := by decide +kernel
theorem dX7_stepTowards_44 : decode YX7_stepTowards.2.1 44 = .ok (.if_icmp .ne 6, 3) := by decide +kernel
theorem dX7_stepTowards_47 : decode YX7_stepTowards.2.1 47 = .ok (.iload 4, 2) := by decide +kernel
theorem dX7_stepTowards_49 : decode YX7_stepTowards.2.1 49 = .ok (.ireturn, 1) := by decide +kernel
theorem dX7_stepTowards_50 : decode YX7_stepTowards.2.1 50 = .ok (.iinc 4 1, 3) := by decide +kernel
theorem dX7_stepTowards_53 : decode YX7_stepTowards.2.1 53 = .ok (.goto (-39), 3) := by decide +kernel
theorem dX7_stepTowards_56 : decode YX7_stepTowards.2.1 56 = .ok (.iload_n 1, 1) := by decide +kernel
theorem dX7_stepTowards_57 : decode YX7_stepTowards.2.1 57 = .ok (.ireturn, 1) := by decide +kernel
theorem dX7_streets_0 : decode YX7_streets.2.1 0 = .ok (.aload_n 0, 1) := by decide +kernel
theorem dX7_streets_1 : decode YX7_streets.2.1 1 = .ok (.getfield 29, 3) := by decide +kernel
theorem dX7_streets_4 : decode YX7_streets.2.1 4 = .ok (.ireturn, 1) := by decide +kernel
theorem dX8_atEnd_0 : decode YX8_atEnd.2.1 0 = .ok (.aload_n 0, 1) := by decide +kernel
theorem dX8_atEnd_1 : decode YX8_atEnd.2.1 1 = .ok (.getfield 57, 3) := by decide +kernel
theorem dX8_atEnd_4 : decode YX8_atEnd.2.1 4 = .ok (.iconst 3, 1) := by decide +kernel
theorem dX8_atEnd_5 : decode YX8_atEnd.2.1 5 = .ok (.if_icmp .ne 7, 3) := by decide +kernel
theorem dX8_atEnd_8 : decode YX8_atEnd.2.1 8 = .ok (.iconst 1, 1) := by decide +kernel
theorem dX8_atEnd_9 : decode YX8_atEnd.2.1 9 = .ok (.goto 4, 3) := by decide +kernel
theorem dX8_atEnd_12 : decode YX8_atEnd.2.1 12 = .ok (.iconst 0, 1) := by decide +kernel
theorem dX8_atEnd_13 : decode YX8_atEnd.2.1 13 = .ok (.ireturn, 1) := by decide +kernel
theorem dX8_fail_0 : decode YX8_fail.2.1 0 = .ok (.aload_n 0, 1) := by decide +kernel
theorem dX8_fail_1 : decode YX8_fail.2.1 1 = .ok (.getfield 48, 3) := by decide +kernel
theorem dX8_fail_4 : decode YX8_fail.2.1 4 = .ok (.ifCond .ne 8, 3) := by decide +kernel
theorem dX8_fail_7 : decode YX8_fail.2.1 7 = .ok (.aload_n 0, 1) := by decide +kernel
theorem dX8_fail_8 : decode YX8_fail.2.1 8 = .ok (.iload_n 1, 1) := by decide +kernel
theorem dX8_fail_9 : decode YX8_fail.2.1 9 = .ok (.putfield 48, 3) := by decide +kernel
theorem dX8_fail_12 : decode YX8_fail.2.1 12 = .ok (.return_, 1) := by decide +kernel
theorem dX8_faultKind_0 : decode YX8_faultKind.2.1 0 = .ok (.aload_n 0, 1) := by decide +kernel
theorem dX8_faultKind_1 : decode YX8_faultKind.2.1 1 = .ok (.getfield 48, 3) := by decide +kernel
theorem dX8_faultKind_4 : decode YX8_faultKind.2.1 4 = .ok (.ireturn, 1) := by decide +kernel
theorem dX8_goOn_0 : decode YX8_goOn.2.1 0 = .ok (.aload_n 0, 1) := by decide +kernel
theorem dX8_goOn_1 : decode YX8_goOn.2.1 1 = .ok (.getfield 48, 3) := by decide +kernel
theorem dX8_goOn_4 : decode YX8_goOn.2.1 4 = .ok (.ifCond .eq 4, 3) := by decide +kernel
theorem dX8_goOn_7 : decode YX8_goOn.2.1 7 = .ok (.return_, 1) := by decide +kernel
theorem dX8_goOn_8 : decode YX8_goOn.2.1 8 = .ok (.aload_n 0, 1) := by decide +kernel
theorem dX8_goOn_9 : decode YX8_goOn.2.1 9 = .ok (.getfield 19, 3) := by decide +kernel
theorem dX8_goOn_12 : decode YX8_goOn.2.1 12 = .ok (.invokevirtual 64, 3) := by decide +kernel
theorem dX8_goOn_15 : decode YX8_goOn.2.1 15 = .ok (.istore_n 1, 1) := by decide +kernel
theorem dX8_goOn_16 : decode YX8_goOn.2.1 16 = .ok (.aload_n 0, 1) := by decide +kernel
theorem dX8_goOn_17 : decode YX8_goOn.2.1 17 = .ok (.getfield 45, 3) := by decide +kernel
theorem dX8_goOn_20 : decode YX8_goOn.2.1 20 = .ok (.istore_n 2, 1) := by decide +kernel
theorem dX8_goOn_21 : decode YX8_goOn.2.1 21 = .ok (.iload_n 1, 1) := by decide +kernel
theorem dX8_goOn_22 : decode YX8_goOn.2.1 22 = .ok (.aload_n 0, 1) := by decide +kernel
theorem dX8_goOn_23 : decode YX8_goOn.2.1 23 = .ok (.getfield 41, 3) := by decide +kernel
theorem dX8_goOn_26 : decode YX8_goOn.2.1 26 = .ok (.invokestatic 67, 3) := by decide +kernel
theorem dX8_goOn_29 : decode YX8_goOn.2.1 29 = .ok (.istore_n 3, 1) := by decide +kernel
theorem dX8_goOn_30 : decode YX8_goOn.2.1 30 = .ok (.iload_n 2, 1) := by decide +kernel
theorem dX8_goOn_31 : decode YX8_goOn.2.1 31 = .ok (.iload_n 3, 1) := by decide +kernel
theorem dX8_goOn_32 : decode YX8_goOn.2.1 32 = .ok (.if_icmp .ge 36, 3) := by decide +kernel
theorem dX8_goOn_35 : decode YX8_goOn.2.1 35 = .ok (.aload_n 0, 1) := by decide +kernel
theorem dX8_goOn_36 : decode YX8_goOn.2.1 36 = .ok (.getfield 19, 3) := by decide +kernel
theorem dX8_goOn_39 : decode YX8_goOn.2.1 39 = .ok (.iload_n 2, 1) := by decide +kernel
theorem dX8_goOn_40 : decode YX8_goOn.2.1 40 = .ok (.invokevirtual 73, 3) := by decide +kernel
theorem dX8_goOn_43 : decode YX8_goOn.2.1 43 = .ok (.istore 4, 2) := by decide +kernel
theorem dX8_goOn_45 : decode YX8_goOn.2.1 45 = .ok (.iload 4, 2) := by decide +kernel
theorem dX8_goOn_47 : decode YX8_goOn.2.1 47 = .ok (.bipush 32, 2) := by decide +kernel
theorem dX8_goOn_49 : decode YX8_goOn.2.1 49 = .ok (.if_icmp .eq 13, 3) := by decide +kernel
theorem dX8_goOn_52 : decode YX8_goOn.2.1 52 = .ok (.iload 4, 2) := by decide +kernel
theorem dX8_goOn_54 : decode YX8_goOn.2.1 54 = .ok (.bipush 10, 2) := by decide +kernel
theorem dX8_goOn_56 : decode YX8_goOn.2.1 56 = .ok (.if_icmp .eq 6, 3) := by decide +kernel
theorem dX8_goOn_59 : decode YX8_goOn.2.1 59 = .ok (.goto 9, 3) := by decide +kernel
theorem dX8_goOn_62 : decode YX8_goOn.2.1 62 = .ok (.iinc 2 1, 3) := by decide +kernel
theorem dX8_goOn_65 : decode YX8_goOn.2.1 65 = .ok (.goto (-35), 3) := by decide +kernel
theorem dX8_goOn_68 : decode YX8_goOn.2.1 68 = .ok (.iload_n 1, 1) := by decide +kernel
theorem dX8_goOn_69 : decode YX8_goOn.2.1 69 = .ok (.aload_n 0, 1) := by decide +kernel
theorem dX8_goOn_70 : decode YX8_goOn.2.1 70 = .ok (.getfield 41, 3) := by decide +kernel
theorem dX8_goOn_73 : decode YX8_goOn.2.1 73 = .ok (.if_icmp .le 27, 3) := by decide +kernel
theorem dX8_goOn_76 : decode YX8_goOn.2.1 76 = .ok (.iload_n 2, 1) := by decide +kernel
theorem dX8_goOn_77 : decode YX8_goOn.2.1 77 = .ok (.aload_n 0, 1) := by decide +kernel
theorem dX8_goOn_78 : decode YX8_goOn.2.1 78 = .ok (.getfield 41, 3) := by decide +kernel
theorem dX8_goOn_81 : decode YX8_goOn.2.1 81 = .ok (.if_icmp .lt 19, 3) := by decide +kernel
theorem dX8_goOn_84 : decode YX8_goOn.2.1 84 = .ok (.aload_n 0, 1) := by decide +kernel
theorem dX8_goOn_85 : decode YX8_goOn.2.1 85 = .ok (.aload_n 0, 1) := by decide +kernel
theorem dX8_goOn_86 : decode YX8_goOn.2.1 86 = .ok (.getfield 41, 3) := by decide +kernel
theorem dX8_goOn_89 : decode YX8_goOn.2.1 89 = .ok (.putfield 54, 3) := by decide +kernel
theorem dX8_goOn_92 : decode YX8_goOn.2.1 92 = .ok (.aload_n 0, 1) := by decide +kernel
theorem dX8_goOn_93 : decode YX8_goOn.2.1 93 = .ok (.iconst 0, 1) := by decide +kernel
theorem dX8_goOn_94 : decode YX8_goOn.2.1 94 = .ok (.putfield 57, 3) := by decide +kernel
theorem dX8_goOn_97 : decode YX8_goOn.2.1 97 = .ok (.goto 59, 3) := by decide +kernel
theorem dX8_goOn_100 : decode YX8_goOn.2.1 100 = .ok (.iload_n 2, 1) := by decide +kernel
theorem dX8_goOn_101 : decode YX8_goOn.2.1 101 = .ok (.iload_n 1, 1) := by decide +kernel
theorem dX8_goOn_102 : decode YX8_goOn.2.1 102 = .ok (.if_icmp .lt 16, 3) := by decide +kernel
theorem dX8_goOn_105 : decode YX8_goOn.2.1 105 = .ok (.aload_n 0, 1) := by decide +kernel
theorem dX8_goOn_106 : decode YX8_goOn.2.1 106 = .ok (.iload_n 1, 1) := by decide +kernel
theorem dX8_goOn_107 : decode YX8_goOn.2.1 107 = .ok (.putfield 54, 3) := by decide +kernel
theorem dX8_goOn_110 : decode YX8_goOn.2.1 110 = .ok (.aload_n 0, 1) := by decide +kernel
theorem dX8_goOn_111 : decode YX8_goOn.2.1 111 = .ok (.iconst 3, 1) := by decide +kernel
theorem dX8_goOn_112 : decode YX8_goOn.2.1 112 = .ok (.putfield 57, 3) := by decide +kernel
theorem dX8_goOn_115 : decode YX8_goOn.2.1 115 = .ok (.goto 41, 3) := by decide +kernel
theorem dX8_goOn_118 : decode YX8_goOn.2.1 118 = .ok (.aload_n 0, 1) := by decide +kernel
theorem dX8_goOn_119 : decode YX8_goOn.2.1 119 = .ok (.iload_n 2, 1) := by decide +kernel
theorem dX8_goOn_120 : decode YX8_goOn.2.1 120 = .ok (.putfield 54, 3) := by decide +kernel
theorem dX8_goOn_123 : decode YX8_goOn.2.1 123 = .ok (.aload_n 0, 1) := by decide +kernel
theorem dX8_goOn_124 : decode YX8_goOn.2.1 124 = .ok (.iload_n 2, 1) := by decide +kernel
theorem dX8_goOn_125 : decode YX8_goOn.2.1 125 = .ok (.iconst 1, 1) := by decide +kernel
theorem dX8_goOn_126 : decode YX8_goOn.2.1 126 = .ok (.iadd, 1) := by decide +kernel
theorem dX8_goOn_127 : decode YX8_goOn.2.1 127 = .ok (.putfield 45, 3) := by decide +kernel
theorem dX8_goOn_130 : decode YX8_goOn.2.1 130 = .ok (.aload_n 0, 1) := by decide +kernel
theorem dX8_goOn_131 : decode YX8_goOn.2.1 131 = .ok (.aload_n 0, 1) := by decide +kernel
theorem dX8_goOn_132 : decode YX8_goOn.2.1 132 = .ok (.getfield 19, 3) := by decide +kernel
theorem dX8_goOn_135 : decode YX8_goOn.2.1 135 = .ok (.iload_n 2, 1) := by decide +kernel
theorem dX8_goOn_136 : decode YX8_goOn.2.1 136 = .ok (.invokevirtual 73, 3) := by decide +kernel
theorem dX8_goOn_139 : decode YX8_goOn.2.1 139 = .ok (.putfield 57, 3) := by decide +kernel
theorem dX8_goOn_142 : decode YX8_goOn.2.1 142 = .ok (.aload_n 0, 1) := by decide +kernel
theorem dX8_goOn_143 : decode YX8_goOn.2.1 143 = .ok (.getfield 57, 3) := by decide +kernel
theorem dX8_goOn_146 : decode YX8_goOn.2.1 146 = .ok (.invokestatic 77, 3) := by decide +kernel
theorem dX8_goOn_149 : decode YX8_goOn.2.1 149 = .ok (.ifCond .ne 7, 3) := by decide +kernel
theorem dX8_goOn_152 : decode YX8_goOn.2.1 152 = .ok (.aload_n 0, 1) := by decide +kernel
theorem dX8_goOn_153 : decode YX8_goOn.2.1 153 = .ok (.invokevirtual 81, 3) := by decide +kernel
theorem dX8_goOn_156 : decode YX8_goOn.2.1 156 = .ok (.return_, 1) := by decide +kernel
theorem dX8_isGood_0 : decode YX8_isGood.2.1 0 = .ok (.aload_n 0, 1) := by decide +kernel
theorem dX8_isGood_1 : decode YX8_isGood.2.1 1 = .ok (.getfield 48, 3) := by decide +kernel
theorem dX8_isGood_4 : decode YX8_isGood.2.1 4 = .ok (.ifCond .ne 7, 3) := by decide +kernel
theorem dX8_isGood_7 : decode YX8_isGood.2.1 7 = .ok (.iconst 1, 1) := by decide +kernel
theorem dX8_isGood_8 : decode YX8_isGood.2.1 8 = .ok (.goto 4, 3) := by decide +kernel
theorem dX8_isGood_11 : decode YX8_isGood.2.1 11 = .ok (.iconst 0, 1) := by decide +kernel
theorem dX8_isGood_12 : decode YX8_isGood.2.1 12 = .ok (.ireturn, 1) := by decide +kernel
theorem dX8_isSign_0 : decode YX8_isSign.2.1 0 = .ok (.aload_n 0, 1) := by decide +kernel
theorem dX8_isSign_1 : decode YX8_isSign.2.1 1 = .ok (.getfield 57, 3) := by decide +kernel
theorem dX8_isSign_4 : decode YX8_isSign.2.1 4 = .ok (.iload_n 1, 1) := by decide +kernel
theorem dX8_isSign_5 : decode YX8_isSign.2.1 5 = .ok (.if_icmp .ne 7, 3) := by decide +kernel
theorem dX8_isSign_8 : decode YX8_isSign.2.1 8 = .ok (.iconst 1, 1) := by decide +kernel
theorem dX8_isSign_9 : decode YX8_isSign.2.1 9 = .ok (.goto 4, 3) := by decide +kernel
theorem dX8_isSign_12 : decode YX8_isSign.2.1 12 = .ok (.iconst 0, 1) := by decide +kernel
theorem dX8_isSign_13 : decode YX8_isSign.2.1 13 = .ok (.ireturn, 1) := by decide +kernel
theorem dX8_isSomeSign_0 : decode YX8_isSomeSign.2.1 0 = .ok (.iload_n 0, 1) := by decide +kernel
theorem dX8_isSomeSign_1 : decode YX8_isSomeSign.2.1 1 = .ok (.bipush 59, 2) := by decide +kernel
theorem dX8_isSomeSign_3 : decode YX8_isSomeSign.2.1 3 = .ok (.if_icmp .eq 33, 3) := by decide +kernel
theorem dX8_isSomeSign_6 : decode YX8_isSomeSign.2.1 6 = .ok (.iload_n 0, 1) := by decide +kernel
theorem dX8_isSomeSign_7 : decode YX8_isSomeSign.2.1 7 = .ok (.bipush 60, 2) := by decide +kernel
theorem dX8_isSomeSign_9 : decode YX8_isSomeSign.2.1 9 = .ok (.if_icmp .eq 27, 3) := by decide +kernel
theorem dX8_isSomeSign_12 : decode YX8_isSomeSign.2.1 12 = .ok (.iload_n 0, 1) := by decide +kernel
theorem dX8_isSomeSign_13 : decode YX8_isSomeSign.2.1 13 = .ok (.bipush 61, 2) := by decide +kernel
theorem dX8_isSomeSign_15 : decode YX8_isSomeSign.2.1 15 = .ok (.if_icmp .eq 21, 3) := by decide +kernel
theorem dX8_isSomeSign_18 : decode YX8_isSomeSign.2.1 18 = .ok (.iload_n 0, 1) := by decide +kernel
theorem dX8_isSomeSign_19 : decode YX8_isSomeSign.2.1 19 = .ok (.bipush 62, 2) := by decide +kernel
theorem dX8_isSomeSign_21 : decode YX8_isSomeSign.2.1 21 = .ok (.if_icmp .eq 15, 3) := by decide +kernel
theorem dX8_isSomeSign_24 : decode YX8_isSomeSign.2.1 24 = .ok (.iload_n 0, 1) := by decide +kernel
theorem dX8_isSomeSign_25 : decode YX8_isSomeSign.2.1 25 = .ok (.bipush 40, 2) := by decide +kernel
theorem dX8_isSomeSign_27 : decode YX8_isSomeSign.2.1 27 = .ok (.if_icmp .eq 9, 3) := by decide +kernel
theorem dX8_isSomeSign_30 : decode YX8_isSomeSign.2.1 30 = .ok (.iload_n 0, 1) := by decide +kernel
theorem dX8_isSomeSign_31 : decode YX8_isSomeSign.2.1 31 = .ok (.bipush 41, 2) := by decide +kernel
theorem dX8_isSomeSign_33 : decode YX8_isSomeSign.2.1 33 = .ok (.if_icmp .ne 7, 3) := by decide +kernel
theorem dX8_isSomeSign_36 : decode YX8_isSomeSign.2.1 36 = .ok (.iconst 1, 1) := by decide +kernel
theorem dX8_isSomeSign_37 : decode YX8_isSomeSign.2.1 37 = .ok (.goto 4, 3) := by decide +kernel
theorem dX8_isSomeSign_40 : decode YX8_isSomeSign.2.1 40 = .ok (.iconst 0, 1) := by decide +kernel
theorem dX8_isSomeSign_41 : decode YX8_isSomeSign.2.1 41 = .ok (.ireturn, 1) := by decide +kernel
theorem dX8_needCorner_0 : decode YX8_needCorner.2.1 0 = .ok (.aload_n 0, 1) := by decide +kernel
theorem dX8_needCorner_1 : decode YX8_needCorner.2.1 1 = .ok (.invokevirtual 101, 3) := by decide +kernel
theorem dX8_needCorner_4 : decode YX8_needCorner.2.1 4 = .ok (.ifCond .eq 14, 3) := by decide +kernel
theorem dX8_needCorner_7 : decode YX8_needCorner.2.1 7 = .ok (.aload_n 1, 1) := by decide +kernel
theorem dX8_needCorner_8 : decode YX8_needCorner.2.1 8 = .ok (.aload_n 0, 1) := by decide +kernel
theorem dX8_needCorner_9 : decode YX8_needCorner.2.1 9 = .ok (.getfield 60, 3) := by decide +kernel
theorem dX8_needCorner_12 : decode YX8_needCorner.2.1 12 = .ok (.invokevirtual 104, 3) := by decide +kernel
theorem dX8_needCorner_15 : decode YX8_needCorner.2.1 15 = .ok (.goto 4, 3) := by decide +kernel
theorem dX8_needCorner_18 : decode YX8_needCorner.2.1 18 = .ok (.iconst (-1), 1) := by decide +kernel
theorem dX8_needCorner_19 : decode YX8_needCorner.2.1 19 = .ok (.istore_n 2, 1) := by decide +kernel
theorem dX8_needCorner_20 : decode YX8_needCorner.2.1 20 = .ok (.iload_n 2, 1) := by decide +kernel
theorem dX8_needCorner_21 : decode YX8_needCorner.2.1 21 = .ok (.iconst (-1), 1) := by decide +kernel
theorem dX8_needCorner_22 : decode YX8_needCorner.2.1 22 = .ok (.if_icmp .ne 8, 3) := by decide +kernel
theorem dX8_needCorner_25 : decode YX8_needCorner.2.1 25 = .ok (.aload_n 0, 1) := by decide +kernel
theorem dX8_needCorner_26 : decode YX8_needCorner.2.1 26 = .ok (.iconst 3, 1) := by decide +kernel
theorem dX8_needCorner_27 : decode YX8_needCorner.2.1 27 = .ok (.invokevirtual 93, 3) := by decide +kernel
theorem dX8_needCorner_30 : decode YX8_needCorner.2.1 30 = .ok (.iload_n 2, 1) := by decide +kernel
theorem dX8_needCorner_31 : decode YX8_needCorner.2.1 31 = .ok (.ireturn, 1) := by decide +kernel
theorem dX8_needName_0 : decode YX8_needName.2.1 0 = .ok (.aload_n 0, 1) := by decide +kernel
theorem dX8_needName_1 : decode YX8_needName.2.1 1 = .ok (.getfield 57, 3) := by decide +kernel
theorem dX8_needName_4 : decode YX8_needName.2.1 4 = .ok (.iconst 1, 1) := by decide +kernel
theorem dX8_needName_5 : decode YX8_needName.2.1 5 = .ok (.if_icmp .ne 11, 3) := by decide +kernel
theorem dX8_needName_8 : decode YX8_needName.2.1 8 = .ok (.aload_n 0, 1) := by decide +kernel
theorem dX8_needName_9 : decode YX8_needName.2.1 9 = .ok (.invokevirtual 90, 3) := by decide +kernel
theorem dX8_needName_12 : decode YX8_needName.2.1 12 = .ok (.iconst (-1), 1) := by decide +kernel
theorem dX8_needName_13 : decode YX8_needName.2.1 13 = .ok (.if_icmp .eq 8, 3) := by decide +kernel
theorem dX8_needName_16 : decode YX8_needName.2.1 16 = .ok (.aload_n 0, 1) := by decide +kernel
theorem dX8_needName_17 : decode YX8_needName.2.1 17 = .ok (.iconst 1, 1) := by decide +kernel
theorem dX8_needName_18 : decode YX8_needName.2.1 18 = .ok (.invokevirtual 93, 3) := by decide +kernel
theorem dX8_needName_21 : decode YX8_needName.2.1 21 = .ok (.aload_n 0, 1) := by decide +kernel
theorem dX8_needName_22 : decode YX8_needName.2.1 22 = .ok (.invokevirtual 97, 3) := by decide +kernel
theorem dX8_needName_25 : decode YX8_needName.2.1 25 = .ok (.ireturn, 1) := by decide +kernel
theorem dX8_needPerson_0 : decode YX8_needPerson.2.1 0 = .ok (.aload_n 0, 1) := by decide +kernel
theorem dX8_needPerson_1 : decode YX8_needPerson.2.1 1 = .ok (.invokevirtual 101, 3) := by decide +kernel
theorem dX8_needPerson_4 : decode YX8_needPerson.2.1 4 = .ok (.ifCond .eq 14, 3) := by decide +kernel
theorem dX8_needPerson_7 : decode YX8_needPerson.2.1 7 = .ok (.aload_n 1, 1) := by decide +kernel
theorem dX8_needPerson_8 : decode YX8_needPerson.2.1 8 = .ok (.aload_n 0, 1) := by decide +kernel
theorem dX8_needPerson_9 : decode YX8_needPerson.2.1 9 = .ok (.getfield 60, 3) := by decide +kernel
theorem dX8_needPerson_12 : decode YX8_needPerson.2.1 12 = .ok (.invokevirtual 110, 3) := by decide +kernel
theorem dX8_needPerson_15 : decode YX8_needPerson.2.1 15 = .ok (.goto 4, 3) := by decide +kernel
theorem dX8_needPerson_18 : decode YX8_needPerson.2.1 18 = .ok (.iconst (-1), 1) := by decide +kernel
theorem dX8_needPerson_19 : decode YX8_needPerson.2.1 19 = .ok (.istore_n 2, 1) := by decide +kernel
theorem dX8_needPerson_20 : decode YX8_needPerson.2.1 20 = .ok (.iload_n 2, 1) := by decide +kernel
theorem dX8_needPerson_21 : decode YX8_needPerson.2.1 21 = .ok (.iconst (-1), 1) := by decide +kernel
theorem dX8_needPerson_22 : decode YX8_needPerson.2.1 22 = .ok (.if_icmp .ne 8, 3) := by decide +kernel
theorem dX8_needPerson_25 : decode YX8_needPerson.2.1 25 = .ok (.aload_n 0, 1) := by decide +kernel
theorem dX8_needPerson_26 : decode YX8_needPerson.2.1 26 = .ok (.iconst 3, 1) := by decide +kernel
theorem dX8_needPerson_27 : decode YX8_needPerson.2.1 27 = .ok (.invokevirtual 93, 3) := by decide +kernel
theorem dX8_needPerson_30 : decode YX8_needPerson.2.1 30 = .ok (.iload_n 2, 1) := by decide +kernel
theorem dX8_needPerson_31 : decode YX8_needPerson.2.1 31 = .ok (.ireturn, 1) := by decide +kernel
theorem dX8_place_0 : decode YX8_place.2.1 0 = .ok (.aload_n 0, 1) := by decide +kernel
theorem dX8_place_1 : decode YX8_place.2.1 1 = .ok (.getfield 54, 3) := by decide +kernel
theorem dX8_place_4 : decode YX8_place.2.1 4 = .ok (.ireturn, 1) := by decide +kernel
theorem dX8_readRun_0 : decode YX8_readRun.2.1 0 = .ok (.iconst 0, 1) := by decide +kernel
theorem dX8_readRun_1 : decode YX8_readRun.2.1 1 = .ok (.istore_n 1, 1) := by decide +kernel
theorem dX8_readRun_2 : decode YX8_readRun.2.1 2 = .ok (.iconst 0, 1) := by decide +kernel
theorem dX8_readRun_3 : decode YX8_readRun.2.1 3 = .ok (.istore_n 2, 1) := by decide +kernel
theorem dX8_readRun_4 : decode YX8_readRun.2.1 4 = .ok (.aload_n 0, 1) := by decide +kernel
theorem dX8_readRun_5 : decode YX8_readRun.2.1 5 = .ok (.getfield 54, 3) := by decide +kernel
theorem dX8_readRun_8 : decode YX8_readRun.2.1 8 = .ok (.istore_n 3, 1) := by decide +kernel
theorem dX8_readRun_9 : decode YX8_readRun.2.1 9 = .ok (.aload_n 0, 1) := by decide +kernel
theorem dX8_readRun_10 : decode YX8_readRun.2.1 10 = .ok (.lconst 0, 1) := by decide +kernel
theorem dX8_readRun_11 : decode YX8_readRun.2.1 11 = .ok (.putfield 60, 3) := by decide +kernel
theorem dX8_readRun_14 : decode YX8_readRun.2.1 14 = .ok (.aload_n 0, 1) := by decide +kernel
theorem dX8_readRun_15 : decode YX8_readRun.2.1 15 = .ok (.iconst 0, 1) := by decide +kernel
theorem dX8_readRun_16 : decode YX8_readRun.2.1 16 = .ok (.putfield 84, 3) := by decide +kernel
theorem dX8_readRun_19 : decode YX8_readRun.2.1 19 = .ok (.aload_n 0, 1) := by decide +kernel
theorem dX8_readRun_20 : decode YX8_readRun.2.1 20 = .ok (.getfield 19, 3) := by decide +kernel
theorem dX8_readRun_23 : decode YX8_readRun.2.1 23 = .ok (.invokevirtual 64, 3) := by decide +kernel
theorem dX8_readRun_26 : decode YX8_readRun.2.1 26 = .ok (.istore 4, 2) := by decide +kernel
theorem dX8_readRun_28 : decode YX8_readRun.2.1 28 = .ok (.iload_n 3, 1) := by decide +kernel
theorem dX8_readRun_29 : decode YX8_readRun.2.1 29 = .ok (.iload 4, 2) := by decide +kernel
theorem dX8_readRun_31 : decode YX8_readRun.2.1 31 = .ok (.if_icmp .ge 86, 3) := by decide +kernel
theorem dX8_readRun_34 : decode YX8_readRun.2.1 34 = .ok (.aload_n 0, 1) := by decide +kernel
theorem dX8_readRun_35 : decode YX8_readRun.2.1 35 = .ok (.getfield 19, 3) := by decide +kernel
theorem dX8_readRun_38 : decode YX8_readRun.2.1 38 = .ok (.iload_n 3, 1) := by decide +kernel
theorem dX8_readRun_39 : decode YX8_readRun.2.1 39 = .ok (.invokevirtual 73, 3) := by decide +kernel
theorem dX8_readRun_42 : decode YX8_readRun.2.1 42 = .ok (.istore 5, 2) := by decide +kernel
theorem dX8_readRun_44 : decode YX8_readRun.2.1 44 = .ok (.iload 5, 2) := by decide +kernel
theorem dX8_readRun_46 : decode YX8_readRun.2.1 46 = .ok (.bipush 97, 2) := by decide +kernel
theorem dX8_readRun_48 : decode YX8_readRun.2.1 48 = .ok (.if_icmp .lt 29, 3) := by decide +kernel
theorem dX8_readRun_51 : decode YX8_readRun.2.1 51 = .ok (.iload 5, 2) := by decide +kernel
theorem dX8_readRun_53 : decode YX8_readRun.2.1 53 = .ok (.bipush 122, 2) := by decide +kernel
theorem dX8_readRun_55 : decode YX8_readRun.2.1 55 = .ok (.if_icmp .gt 22, 3) := by decide +kernel
theorem dX8_readRun_58 : decode YX8_readRun.2.1 58 = .ok (.iinc 1 1, 3) := by decide +kernel
theorem dX8_readRun_61 : decode YX8_readRun.2.1 61 = .ok (.aload_n 0, 1) := by decide +kernel
theorem dX8_readRun_62 : decode YX8_readRun.2.1 62 = .ok (.aload_n 0, 1) := by decide +kernel
theorem dX8_readRun_63 : decode YX8_readRun.2.1 63 = .ok (.getfield 60, 3) := by decide +kernel
theorem dX8_readRun_66 : decode YX8_readRun.2.1 66 = .ok (.iload 5, 2) := by decide +kernel
theorem dX8_readRun_68 : decode YX8_readRun.2.1 68 = .ok (.invokestatic 35, 3) := by decide +kernel
theorem dX8_readRun_71 : decode YX8_readRun.2.1 71 = .ok (.putfield 60, 3) := by decide +kernel
theorem dX8_readRun_74 : decode YX8_readRun.2.1 74 = .ok (.goto 37, 3) := by decide +kernel
theorem dX8_readRun_77 : decode YX8_readRun.2.1 77 = .ok (.iload 5, 2) := by decide +kernel
theorem dX8_readRun_79 : decode YX8_readRun.2.1 79 = .ok (.bipush 48, 2) := by decide +kernel
theorem dX8_readRun_81 : decode YX8_readRun.2.1 81 = .ok (.if_icmp .lt 36, 3) := by decide +kernel
theorem dX8_readRun_84 : decode YX8_readRun.2.1 84 = .ok (.iload 5, 2) := by decide +kernel
theorem dX8_readRun_86 : decode YX8_readRun.2.1 86 = .ok (.bipush 57, 2) := by decide +kernel
theorem dX8_readRun_88 : decode YX8_readRun.2.1 88 = .ok (.if_icmp .gt 29, 3) := by decide +kernel
theorem dX8_readRun_91 : decode YX8_readRun.2.1 91 = .ok (.iinc 2 1, 3) := by decide +kernel
theorem dX8_readRun_94 : decode YX8_readRun.2.1 94 = .ok (.aload_n 0, 1) := by decide +kernel
theorem dX8_readRun_95 : decode YX8_readRun.2.1 95 = .ok (.aload_n 0, 1) := by decide +kernel
theorem dX8_readRun_96 : decode YX8_readRun.2.1 96 = .ok (.getfield 84, 3) := by decide +kernel
theorem dX8_readRun_99 : decode YX8_readRun.2.1 99 = .ok (.bipush 10, 2) := by decide +kernel
theorem dX8_readRun_101 : decode YX8_readRun.2.1 101 = .ok (.imul, 1) := by decide +kernel
theorem dX8_readRun_102 : decode YX8_readRun.2.1 102 = .ok (.iload 5, 2) := by decide +kernel
theorem dX8_readRun_104 : decode YX8_readRun.2.1 104 = .ok (.bipush 48, 2) := by decide +kernel
theorem dX8_readRun_106 : decode YX8_readRun.2.1 106 = .ok (.isub, 1) := by decide +kernel
theorem dX8_readRun_107 : decode YX8_readRun.2.1 107 = .ok (.iadd, 1) := by decide +kernel
theorem dX8_readRun_108 : decode YX8_readRun.2.1 108 = .ok (.putfield 84, 3) := by decide +kernel
theorem dX8_readRun_111 : decode YX8_readRun.2.1 111 = .ok (.iinc 3 1, 3) := by decide +kernel
theorem dX8_readRun_114 : decode YX8_readRun.2.1 114 = .ok (.goto (-86), 3) := by decide +kernel
theorem dX8_readRun_117 : decode YX8_readRun.2.1 117 = .ok (.aload_n 0, 1) := by decide +kernel
theorem dX8_readRun_118 : decode YX8_readRun.2.1 118 = .ok (.iload_n 3, 1) := by decide +kernel
theorem dX8_readRun_119 : decode YX8_readRun.2.1 119 = .ok (.aload_n 0, 1) := by decide +kernel
theorem dX8_readRun_120 : decode YX8_readRun.2.1 120 = .ok (.getfield 54, 3) := by decide +kernel
theorem dX8_readRun_123 : decode YX8_readRun.2.1 123 = .ok (.iconst 1, 1) := by decide +kernel
theorem dX8_readRun_124 : decode YX8_readRun.2.1 124 = .ok (.iadd, 1) := by decide +kernel
theorem dX8_readRun_125 : decode YX8_readRun.2.1 125 = .ok (.invokestatic 87, 3) := by decide +kernel
theorem dX8_readRun_128 : decode YX8_readRun.2.1 128 = .ok (.putfield 45, 3) := by decide +kernel
theorem dX8_readRun_131 : decode YX8_readRun.2.1 131 = .ok (.iload_n 2, 1) := by decide +kernel
theorem dX8_readRun_132 : decode YX8_readRun.2.1 132 = .ok (.ifCond .ne 21, 3) := by decide +kernel
theorem dX8_readRun_135 : decode YX8_readRun.2.1 135 = .ok (.iload_n 1, 1) := by decide +kernel
theorem dX8_readRun_136 : decode YX8_readRun.2.1 136 = .ok (.ifCond .le 17, 3) := by decide +kernel
theorem dX8_readRun_139 : decode YX8_readRun.2.1 139 = .ok (.iload_n 1, 1) := by decide +kernel
theorem dX8_readRun_140 : decode YX8_readRun.2.1 140 = .ok (.bipush 7, 2) := by decide +kernel
theorem dX8_readRun_142 : decode YX8_readRun.2.1 142 = .ok (.if_icmp .gt 11, 3) := by decide +kernel
theorem dX8_readRun_145 : decode YX8_readRun.2.1 145 = .ok (.aload_n 0, 1) := by decide +kernel
theorem dX8_readRun_146 : decode YX8_readRun.2.1 146 = .ok (.iconst 1, 1) := by decide +kernel
theorem dX8_readRun_147 : decode YX8_readRun.2.1 147 = .ok (.putfield 57, 3) := by decide +kernel
theorem dX8_readRun_150 : decode YX8_readRun.2.1 150 = .ok (.goto 29, 3) := by decide +kernel
theorem dX8_readRun_153 : decode YX8_readRun.2.1 153 = .ok (.iload_n 1, 1) := by decide +kernel
theorem dX8_readRun_154 : decode YX8_readRun.2.1 154 = .ok (.ifCond .ne 20, 3) := by decide +kernel
theorem dX8_readRun_157 : decode YX8_readRun.2.1 157 = .ok (.iload_n 2, 1) := by decide +kernel
theorem dX8_readRun_158 : decode YX8_readRun.2.1 158 = .ok (.ifCond .le 16, 3) := by decide +kernel
theorem dX8_readRun_161 : decode YX8_readRun.2.1 161 = .ok (.iload_n 2, 1) := by decide +kernel
theorem dX8_readRun_162 : decode YX8_readRun.2.1 162 = .ok (.iconst 3, 1) := by decide +kernel
theorem dX8_readRun_163 : decode YX8_readRun.2.1 163 = .ok (.if_icmp .gt 11, 3) := by decide +kernel
theorem dX8_readRun_166 : decode YX8_readRun.2.1 166 = .ok (.aload_n 0, 1) := by decide +kernel
theorem dX8_readRun_167 : decode YX8_readRun.2.1 167 = .ok (.iconst 2, 1) := by decide +kernel
theorem dX8_readRun_168 : decode YX8_readRun.2.1 168 = .ok (.putfield 57, 3) := by decide +kernel
theorem dX8_readRun_171 : decode YX8_readRun.2.1 171 = .ok (.goto 8, 3) := by decide +kernel
theorem dX8_readRun_174 : decode YX8_readRun.2.1 174 = .ok (.aload_n 0, 1) := by decide +kernel
theorem dX8_readRun_175 : decode YX8_readRun.2.1 175 = .ok (.iconst 0, 1) := by decide +kernel
theorem dX8_readRun_176 : decode YX8_readRun.2.1 176 = .ok (.putfield 57, 3) := by decide +kernel
theorem dX8_readRun_179 : decode YX8_readRun.2.1 179 = .ok (.return_, 1) := by decide +kernel
theorem dX8_start_0 : decode YX8_start.2.1 0 = .ok (.aload_n 0, 1) := by decide +kernel
theorem dX8_start_1 : decode YX8_start.2.1 1 = .ok (.iload_n 1, 1) := by decide +kernel
theorem dX8_start_2 : decode YX8_start.2.1 2 = .ok (.putfield 41, 3) := by decide +kernel
theorem dX8_start_5 : decode YX8_start.2.1 5 = .ok (.aload_n 0, 1) := by decide +kernel
theorem dX8_start_6 : decode YX8_start.2.1 6 = .ok (.iconst 0, 1) := by decide +kernel
theorem dX8_start_7 : decode YX8_start.2.1 7 = .ok (.putfield 45, 3) := by decide +kernel
theorem dX8_start_10 : decode YX8_start.2.1 10 = .ok (.aload_n 0, 1) := by decide +kernel
theorem dX8_start_11 : decode YX8_start.2.1 11 = .ok (.iconst 0, 1) := by decide +kernel
theorem dX8_start_12 : decode YX8_start.2.1 12 = .ok (.putfield 48, 3) := by decide +kernel
theorem dX8_start_15 : decode YX8_start.2.1 15 = .ok (.aload_n 0, 1) := by decide +kernel
theorem dX8_start_16 : decode YX8_start.2.1 16 = .ok (.invokevirtual 51, 3) := by decide +kernel
theorem dX8_start_19 : decode YX8_start.2.1 19 = .ok (.return_, 1) := by decide +kernel
theorem dX8_takeComparison_0 : decode YX8_takeComparison.2.1 0 = .ok (.aload_n 0, 1) := by decide +kernel
theorem dX8_takeComparison_1 : decode YX8_takeComparison.2.1 1 = .ok (.getfield 57, 3) := by decide +kernel
theorem dX8_takeComparison_4 : decode YX8_takeComparison.2.1 4 = .ok (.istore_n 1, 1) := by decide +kernel
theorem dX8_takeComparison_5 : decode YX8_takeComparison.2.1 5 = .ok (.iload_n 1, 1) := by decide +kernel
theorem dX8_takeComparison_6 : decode YX8_takeComparison.2.1 6 = .ok (.bipush 60, 2) := by decide +kernel
theorem dX8_takeComparison_8 : decode YX8_takeComparison.2.1 8 = .ok (.if_icmp .eq 20, 3) := by decide +kernel
theorem dX8_takeComparison_11 : decode YX8_takeComparison.2.1 11 = .ok (.iload_n 1, 1) := by decide +kernel
theorem dX8_takeComparison_12 : decode YX8_takeComparison.2.1 12 = .ok (.bipush 61, 2) := by decide +kernel
theorem dX8_takeComparison_14 : decode YX8_takeComparison.2.1 14 = .ok (.if_icmp .eq 14, 3) := by decide +kernel
theorem dX8_takeComparison_17 : decode YX8_takeComparison.2.1 17 = .ok (.iload_n 1, 1) := by decide +kernel
theorem dX8_takeComparison_18 : decode YX8_takeComparison.2.1 18 = .ok (.bipush 62, 2) := by decide +kernel
theorem dX8_takeComparison_20 : decode YX8_takeComparison.2.1 20 = .ok (.if_icmp .eq 8, 3) := by decide +kernel
theorem dX8_takeComparison_23 : decode YX8_takeComparison.2.1 23 = .ok (.aload_n 0, 1) := by decide +kernel
theorem dX8_takeComparison_24 : decode YX8_takeComparison.2.1 24 = .ok (.iconst 1, 1) := by decide +kernel
theorem dX8_takeComparison_25 : decode YX8_takeComparison.2.1 25 = .ok (.invokevirtual 93, 3) := by decide +kernel
theorem dX8_takeComparison_28 : decode YX8_takeComparison.2.1 28 = .ok (.aload_n 0, 1) := by decide +kernel
theorem dX8_takeComparison_29 : decode YX8_takeComparison.2.1 29 = .ok (.invokevirtual 51, 3) := by decide +kernel
theorem dX8_takeComparison_32 : decode YX8_takeComparison.2.1 32 = .ok (.iload_n 1, 1) := by decide +kernel
theorem dX8_takeComparison_33 : decode YX8_takeComparison.2.1 33 = .ok (.ireturn, 1) := by decide +kernel
theorem dX8_takeNumber_0 : decode YX8_takeNumber.2.1 0 = .ok (.aload_n 0, 1) := by decide +kernel
theorem dX8_takeNumber_1 : decode YX8_takeNumber.2.1 1 = .ok (.getfield 84, 3) := by decide +kernel
theorem dX8_takeNumber_4 : decode YX8_takeNumber.2.1 4 = .ok (.istore_n 3, 1) := by decide +kernel
theorem dX8_takeNumber_5 : decode YX8_takeNumber.2.1 5 = .ok (.aload_n 0, 1) := by decide +kernel
theorem dX8_takeNumber_6 : decode YX8_takeNumber.2.1 6 = .ok (.getfield 57, 3) := by decide +kernel
theorem dX8_takeNumber_9 : decode YX8_takeNumber.2.1 9 = .ok (.iconst 2, 1) := by decide +kernel
theorem dX8_takeNumber_10 : decode YX8_takeNumber.2.1 10 = .ok (.if_icmp .eq 11, 3) := by decide +kernel
theorem dX8_takeNumber_13 : decode YX8_takeNumber.2.1 13 = .ok (.aload_n 0, 1) := by decide +kernel
theorem dX8_takeNumber_14 : decode YX8_takeNumber.2.1 14 = .ok (.iconst 1, 1) := by decide +kernel
theorem dX8_takeNumber_15 : decode YX8_takeNumber.2.1 15 = .ok (.invokevirtual 93, 3) := by decide +kernel
theorem dX8_takeNumber_18 : decode YX8_takeNumber.2.1 18 = .ok (.goto 18, 3) := by decide +kernel
theorem dX8_takeNumber_21 : decode YX8_takeNumber.2.1 21 = .ok (.iload_n 3, 1) := by decide +kernel
theorem dX8_takeNumber_22 : decode YX8_takeNumber.2.1 22 = .ok (.iload_n 1, 1) := by decide +kernel
theorem dX8_takeNumber_23 : decode YX8_takeNumber.2.1 23 = .ok (.if_icmp .lt 8, 3) := by decide +kernel
theorem dX8_takeNumber_26 : decode YX8_takeNumber.2.1 26 = .ok (.iload_n 3, 1) := by decide +kernel
theorem dX8_takeNumber_27 : decode YX8_takeNumber.2.1 27 = .ok (.iload_n 2, 1) := by decide +kernel
theorem dX8_takeNumber_28 : decode YX8_takeNumber.2.1 28 = .ok (.if_icmp .le 8, 3) := by decide +kernel
theorem dX8_takeNumber_31 : decode YX8_takeNumber.2.1 31 = .ok (.aload_n 0, 1) := by decide +kernel
theorem dX8_takeNumber_32 : decode YX8_takeNumber.2.1 32 = .ok (.iconst 2, 1) := by decide +kernel
theorem dX8_takeNumber_33 : decode YX8_takeNumber.2.1 33 = .ok (.invokevirtual 93, 3) := by decide +kernel
theorem dX8_takeNumber_36 : decode YX8_takeNumber.2.1 36 = .ok (.aload_n 0, 1) := by decide +kernel
theorem dX8_takeNumber_37 : decode YX8_takeNumber.2.1 37 = .ok (.invokevirtual 51, 3) := by decide +kernel
theorem dX8_takeNumber_40 : decode YX8_takeNumber.2.1 40 = .ok (.iload_n 3, 1) := by decide +kernel
theorem dX8_takeNumber_41 : decode YX8_takeNumber.2.1 41 = .ok (.ireturn, 1) := by decide +kernel
theorem dX8_takeSign_0 : decode YX8_takeSign.2.1 0 = .ok (.aload_n 0, 1) := by decide +kernel
theorem dX8_takeSign_1 : decode YX8_takeSign.2.1 1 = .ok (.getfield 57, 3) := by decide +kernel
theorem dX8_takeSign_4 : decode YX8_takeSign.2.1 4 = .ok (.iload_n 1, 1) := by decide +kernel
theorem dX8_takeSign_5 : decode YX8_takeSign.2.1 5 = .ok (.if_icmp .eq 8, 3) := by decide +kernel
theorem dX8_takeSign_8 : decode YX8_takeSign.2.1 8 = .ok (.aload_n 0, 1) := by decide +kernel
theorem dX8_takeSign_9 : decode YX8_takeSign.2.1 9 = .ok (.iconst 1, 1) := by decide +kernel
theorem dX8_takeSign_10 : decode YX8_takeSign.2.1 10 = .ok (.invokevirtual 93, 3) := by decide +kernel
theorem dX8_takeSign_13 : decode YX8_takeSign.2.1 13 = .ok (.aload_n 0, 1) := by decide +kernel
theorem dX8_takeSign_14 : decode YX8_takeSign.2.1 14 = .ok (.invokevirtual 51, 3) := by decide +kernel
theorem dX8_takeSign_17 : decode YX8_takeSign.2.1 17 = .ok (.return_, 1) := by decide +kernel
theorem dX8_toldWord_0 : decode YX8_toldWord.2.1 0 = .ok (.aload_n 0, 1) := by decide +kernel
theorem dX8_toldWord_1 : decode YX8_toldWord.2.1 1 = .ok (.getfield 57, 3) := by decide +kernel
theorem dX8_toldWord_4 : decode YX8_toldWord.2.1 4 = .ok (.iconst 1, 1) := by decide +kernel
theorem dX8_toldWord_5 : decode YX8_toldWord.2.1 5 = .ok (.if_icmp .ne 33, 3) := by decide +kernel
theorem dX8_toldWord_8 : decode YX8_toldWord.2.1 8 = .ok (.iconst 0, 1) := by decide +kernel
theorem dX8_toldWord_9 : decode YX8_toldWord.2.1 9 = .ok (.istore_n 1, 1) := by decide +kernel
theorem dX8_toldWord_10 : decode YX8_toldWord.2.1 10 = .ok (.iload_n 1, 1) := by decide +kernel
theorem dX8_toldWord_11 : decode YX8_toldWord.2.1 11 = .ok (.bipush 22, 2) := by decide +kernel
theorem dX8_toldWord_13 : decode YX8_toldWord.2.1 13 = .ok (.if_icmp .ge 25, 3) := by decide +kernel
theorem dX8_toldWord_16 : decode YX8_toldWord.2.1 16 = .ok (.aload_n 0, 1) := by decide +kernel
theorem dX8_toldWord_17 : decode YX8_toldWord.2.1 17 = .ok (.getfield 15, 3) := by decide +kernel
theorem dX8_toldWord_20 : decode YX8_toldWord.2.1 20 = .ok (.iload_n 1, 1) := by decide +kernel
theorem dX8_toldWord_21 : decode YX8_toldWord.2.1 21 = .ok (.laload, 1) := by decide +kernel
theorem dX8_toldWord_22 : decode YX8_toldWord.2.1 22 = .ok (.aload_n 0, 1) := by decide +kernel
theorem dX8_toldWord_23 : decode YX8_toldWord.2.1 23 = .ok (.getfield 60, 3) := by decide +kernel
theorem dX8_toldWord_26 : decode YX8_toldWord.2.1 26 = .ok (.lcmp, 1) := by decide +kernel
theorem dX8_toldWord_27 : decode YX8_toldWord.2.1 27 = .ok (.ifCond .ne 5, 3) := by decide +kernel
theorem dX8_toldWord_30 : decode YX8_toldWord.2.1 30 = .ok (.iload_n 1, 1) := by decide +kernel
theorem dX8_toldWord_31 : decode YX8_toldWord.2.1 31 = .ok (.ireturn, 1) := by decide +kernel
theorem dX8_toldWord_32 : decode YX8_toldWord.2.1 32 = .ok (.iinc 1 1, 3) := by decide +kernel
theorem dX8_toldWord_35 : decode YX8_toldWord.2.1 35 = .ok (.goto (-25), 3) := by decide +kernel
theorem dX8_toldWord_38 : decode YX8_toldWord.2.1 38 = .ok (.iconst (-1), 1) := by decide +kernel
theorem dX8_toldWord_39 : decode YX8_toldWord.2.1 39 = .ok (.ireturn, 1) := by decide +kernel
theorem dX8_withLetter_0 : decode YX8_withLetter.2.1 0 = .ok (.lload_n 0, 1) := by decide +kernel
theorem dX8_withLetter_1 : decode YX8_withLetter.2.1 1 = .ok (.ldc2_w 39, 3) := by decide +kernel
theorem dX8_withLetter_4 : decode YX8_withLetter.2.1 4 = .ok (.lmul, 1) := by decide +kernel
theorem dX8_withLetter_5 : decode YX8_withLetter.2.1 5 = .ok (.iload_n 2, 1) := by decide +kernel
theorem dX8_withLetter_6 : decode YX8_withLetter.2.1 6 = .ok (.bipush 97, 2) := by decide +kernel
theorem dX8_withLetter_8 : decode YX8_withLetter.2.1 8 = .ok (.isub, 1) := by decide +kernel
theorem dX8_withLetter_9 : decode YX8_withLetter.2.1 9 = .ok (.iconst 1, 1) := by decide +kernel
theorem dX8_withLetter_10 : decode YX8_withLetter.2.1 10 = .ok (.iadd, 1) := by decide +kernel
theorem dX8_withLetter_11 : decode YX8_withLetter.2.1 11 = .ok (.i2l, 1) := by decide +kernel
theorem dX8_withLetter_12 : decode YX8_withLetter.2.1 12 = .ok (.ladd, 1) := by decide +kernel
theorem dX8_withLetter_13 : decode YX8_withLetter.2.1 13 = .ok (.lreturn, 1) := by decide +kernel
theorem dX8_wordHere_0 : decode YX8_wordHere.2.1 0 = .ok (.aload_n 0, 1) := by decide +kernel
theorem dX8_wordHere_1 : decode YX8_wordHere.2.1 1 = .ok (.getfield 60, 3) := by decide +kernel
theorem dX8_wordHere_4 : decode YX8_wordHere.2.1 4 = .ok (.lreturn, 1) := by decide +kernel
theorem dX9_addPart_0 : decode YX9_addPart.2.1 0 = .ok (.aload_n 0, 1) := by decide +kernel
theorem dX9_addPart_1 : decode YX9_addPart.2.1 1 = .ok (.getfield 35, 3) := by decide +kernel
theorem dX9_addPart_4 : decode YX9_addPart.2.1 4 = .ok (.bipush 40, 2) := by decide +kernel
theorem dX9_addPart_6 : decode YX9_addPart.2.1 6 = .ok (.if_icmp .ge 43, 3) := by decide +kernel
theorem dX9_addPart_9 : decode YX9_addPart.2.1 9 = .ok (.aload_n 0, 1) := by decide +kernel
theorem dX9_addPart_10 : decode YX9_addPart.2.1 10 = .ok (.getfield 11, 3) := by decide +kernel
theorem dX9_addPart_13 : decode YX9_addPart.2.1 13 = .ok (.aload_n 0, 1) := by decide +kernel
theorem dX9_addPart_14 : decode YX9_addPart.2.1 14 = .ok (.getfield 35, 3) := by decide +kernel
theorem dX9_addPart_17 : decode YX9_addPart.2.1 17 = .ok (.iload_n 1, 1) := by decide +kernel
theorem dX9_addPart_18 : decode YX9_addPart.2.1 18 = .ok (.iastore, 1) := by decide +kernel
theorem dX9_addPart_19 : decode YX9_addPart.2.1 19 = .ok (.aload_n 0, 1) := by decide +kernel
theorem dX9_addPart_20 : decode YX9_addPart.2.1 20 = .ok (.getfield 15, 3) := by decide +kernel
theorem dX9_addPart_23 : decode YX9_addPart.2.1 23 = .ok (.aload_n 0, 1) := by decide +kernel
theorem dX9_addPart_24 : decode YX9_addPart.2.1 24 = .ok (.getfield 35, 3) := by decide +kernel
theorem dX9_addPart_27 : decode YX9_addPart.2.1 27 = .ok (.iload_n 2, 1) := by decide +kernel
theorem dX9_addPart_28 : decode YX9_addPart.2.1 28 = .ok (.iastore, 1) := by decide +kernel
theorem dX9_addPart_29 : decode YX9_addPart.2.1 29 = .ok (.aload_n 0, 1) := by decide +kernel
theorem dX9_addPart_30 : decode YX9_addPart.2.1 30 = .ok (.getfield 18, 3) := by decide +kernel
theorem dX9_addPart_33 : decode YX9_addPart.2.1 33 = .ok (.aload_n 0, 1) := by decide +kernel
theorem dX9_addPart_34 : decode YX9_addPart.2.1 34 = .ok (.getfield 35, 3) := by decide +kernel
theorem dX9_addPart_37 : decode YX9_addPart.2.1 37 = .ok (.iload_n 3, 1) := by decide +kernel
theorem dX9_addPart_38 : decode YX9_addPart.2.1 38 = .ok (.iastore, 1) := by decide +kernel
theorem dX9_addPart_39 : decode YX9_addPart.2.1 39 = .ok (.aload_n 0, 1) := by decide +kernel
theorem dX9_addPart_40 : decode YX9_addPart.2.1 40 = .ok (.dup, 1) := by decide +kernel
theorem dX9_addPart_41 : decode YX9_addPart.2.1 41 = .ok (.getfield 35, 3) := by decide +kernel
theorem dX9_addPart_44 : decode YX9_addPart.2.1 44 = .ok (.iconst 1, 1) := by decide +kernel
theorem dX9_addPart_45 : decode YX9_addPart.2.1 45 = .ok (.iadd, 1) := by decide +kernel
theorem dX9_addPart_46 : decode YX9_addPart.2.1 46 = .ok (.putfield 35, 3) := by decide +kernel
theorem dX9_addPart_49 : decode YX9_addPart.2.1 49 = .ok (.return_, 1) := by decide +kernel
theorem dX9_addWaiting_0 : decode YX9_addWaiting.2.1 0 = .ok (.aload_n 0, 1) := by decide +kernel
theorem dX9_addWaiting_1 : decode YX9_addWaiting.2.1 1 = .ok (.getfield 38, 3) := by decide +kernel
theorem dX9_addWaiting_4 : decode YX9_addWaiting.2.1 4 = .ok (.bipush 40, 2) := by decide +kernel
theorem dX9_addWaiting_6 : decode YX9_addWaiting.2.1 6 = .ok (.if_icmp .ge 23, 3) := by decide +kernel
theorem dX9_addWaiting_9 : decode YX9_addWaiting.2.1 9 = .ok (.aload_n 0, 1) := by decide +kernel
theorem dX9_addWaiting_10 : decode YX9_addWaiting.2.1 10 = .ok (.getfield 21, 3) := by decide +kernel
theorem dX9_addWaiting_13 : decode YX9_addWaiting.2.1 13 = .ok (.aload_n 0, 1) := by decide +kernel
theorem dX9_addWaiting_14 : decode YX9_addWaiting.2.1 14 = .ok (.getfield 38, 3) := by decide +kernel
theorem dX9_addWaiting_17 : decode YX9_addWaiting.2.1 17 = .ok (.iload_n 1, 1) := by decide +kernel
theorem dX9_addWaiting_18 : decode YX9_addWaiting.2.1 18 = .ok (.iastore, 1) := by decide +kernel
theorem dX9_addWaiting_19 : decode YX9_addWaiting.2.1 19 = .ok (.aload_n 0, 1) := by decide +kernel
theorem dX9_addWaiting_20 : decode YX9_addWaiting.2.1 20 = .ok (.dup, 1) := by decide +kernel
theorem dX9_addWaiting_21 : decode YX9_addWaiting.2.1 21 = .ok (.getfield 38, 3) := by decide +kernel
theorem dX9_addWaiting_24 : decode YX9_addWaiting.2.1 24 = .ok (.iconst 1, 1) := by decide +kernel
theorem dX9_addWaiting_25 : decode YX9_addWaiting.2.1 25 = .ok (.iadd, 1) := by decide +kernel
theorem dX9_addWaiting_26 : decode YX9_addWaiting.2.1 26 = .ok (.putfield 38, 3) := by decide +kernel
theorem dX9_addWaiting_29 : decode YX9_addWaiting.2.1 29 = .ok (.return_, 1) := by decide +kernel
theorem dX9_clear_0 : decode YX9_clear.2.1 0 = .ok (.aload_n 0, 1) := by decide +kernel
theorem dX9_clear_1 : decode YX9_clear.2.1 1 = .ok (.iconst 0, 1) := by decide +kernel
theorem dX9_clear_2 : decode YX9_clear.2.1 2 = .ok (.putfield 35, 3) := by decide +kernel
theorem dX9_clear_5 : decode YX9_clear.2.1 5 = .ok (.aload_n 0, 1) := by decide +kernel
theorem dX9_clear_6 : decode YX9_clear.2.1 6 = .ok (.iconst 0, 1) := by decide +kernel
theorem dX9_clear_7 : decode YX9_clear.2.1 7 = .ok (.putfield 38, 3) := by decide +kernel
theorem dX9_clear_10 : decode YX9_clear.2.1 10 = .ok (.aload_n 0, 1) := by decide +kernel
theorem dX9_clear_11 : decode YX9_clear.2.1 11 = .ok (.iconst 0, 1) := by decide +kernel
theorem dX9_clear_12 : decode YX9_clear.2.1 12 = .ok (.putfield 41, 3) := by decide +kernel
theorem dX9_clear_15 : decode YX9_clear.2.1 15 = .ok (.aload_n 0, 1) := by decide +kernel
theorem dX9_clear_16 : decode YX9_clear.2.1 16 = .ok (.iconst 0, 1) := by decide +kernel
theorem dX9_clear_17 : decode YX9_clear.2.1 17 = .ok (.putfield 31, 3) := by decide +kernel
theorem dX9_clear_20 : decode YX9_clear.2.1 20 = .ok (.aload_n 0, 1) := by decide +kernel
theorem dX9_clear_21 : decode YX9_clear.2.1 21 = .ok (.iconst 0, 1) := by decide +kernel
theorem dX9_clear_22 : decode YX9_clear.2.1 22 = .ok (.putfield 27, 3) := by decide +kernel
theorem dX9_clear_25 : decode YX9_clear.2.1 25 = .ok (.return_, 1) := by decide +kernel
theorem dX9_compares_0 : decode YX9_compares.2.1 0 = .ok (.aload_n 0, 1) := by decide +kernel
theorem dX9_compares_1 : decode YX9_compares.2.1 1 = .ok (.getfield 15, 3) := by decide +kernel
theorem dX9_compares_4 : decode YX9_compares.2.1 4 = .ok (.iload_n 2, 1) := by decide +kernel
theorem dX9_compares_5 : decode YX9_compares.2.1 5 = .ok (.iaload, 1) := by decide +kernel
theorem dX9_compares_6 : decode YX9_compares.2.1 6 = .ok (.lookupswitch 58 #[(60, 26), (61, 42)], 26) := by decide +kernel
theorem dX9_compares_32 : decode YX9_compares.2.1 32 = .ok (.iload_n 1, 1) := by decide +kernel
theorem dX9_compares_33 : decode YX9_compares.2.1 33 = .ok (.aload_n 0, 1) := by decide +kernel
theorem dX9_compares_34 : decode YX9_compares.2.1 34 = .ok (.getfield 18, 3) := by decide +kernel
theorem dX9_compares_37 : decode YX9_compares.2.1 37 = .ok (.iload_n 2, 1) := by decide +kernel
theorem dX9_compares_38 : decode YX9_compares.2.1 38 = .ok (.iaload, 1) := by decide +kernel
theorem dX9_compares_39 : decode YX9_compares.2.1 39 = .ok (.if_icmp .ge 7, 3) := by decide +kernel
theorem dX9_compares_42 : decode YX9_compares.2.1 42 = .ok (.iconst 1, 1) := by decide +kernel
theorem dX9_compares_43 : decode YX9_compares.2.1 43 = .ok (.goto 4, 3) := by decide +kernel
theorem dX9_compares_46 : decode YX9_compares.2.1 46 = .ok (.iconst 0, 1) := by decide +kernel
theorem dX9_compares_47 : decode YX9_compares.2.1 47 = .ok (.ireturn, 1) := by decide +kernel
theorem dX9_compares_48 : decode YX9_compares.2.1 48 = .ok (.iload_n 1, 1) := by decide +kernel
theorem dX9_compares_49 : decode YX9_compares.2.1 49 = .ok (.aload_n 0, 1) := by decide +kernel
theorem dX9_compares_50 : decode YX9_compares.2.1 50 = .ok (.getfield 18, 3) := by decide +kernel
theorem dX9_compares_53 : decode YX9_compares.2.1 53 = .ok (.iload_n 2, 1) := by decide +kernel
theorem dX9_compares_54 : decode YX9_compares.2.1 54 = .ok (.iaload, 1) := by decide +kernel
theorem dX9_compares_55 : decode YX9_compares.2.1 55 = .ok (.if_icmp .ne 7, 3) := by decide +kernel
theorem dX9_compares_58 : decode YX9_compares.2.1 58 = .ok (.iconst 1, 1) := by decide +kernel
theorem dX9_compares_59 : decode YX9_compares.2.1 59 = .ok (.goto 4, 3) := by decide +kernel
theorem dX9_compares_62 : decode YX9_compares.2.1 62 = .ok (.iconst 0, 1) := by decide +kernel
theorem dX9_compares_63 : decode YX9_compares.2.1 63 = .ok (.ireturn, 1) := by decide +kernel
theorem dX9_compares_64 : decode YX9_compares.2.1 64 = .ok (.iload_n 1, 1) := by decide +kernel
theorem dX9_compares_65 : decode YX9_compares.2.1 65 = .ok (.aload_n 0, 1) := by decide +kernel
theorem dX9_compares_66 : decode YX9_compares.2.1 66 = .ok (.getfield 18, 3) := by decide +kernel
theorem dX9_compares_69 : decode YX9_compares.2.1 69 = .ok (.iload_n 2, 1) := by decide +kernel
theorem dX9_compares_70 : decode YX9_compares.2.1 70 = .ok (.iaload, 1) := by decide +kernel
theorem dX9_compares_71 : decode YX9_compares.2.1 71 = .ok (.if_icmp .le 7, 3) := by decide +kernel
theorem dX9_compares_74 : decode YX9_compares.2.1 74 = .ok (.iconst 1, 1) := by decide +kernel
theorem dX9_compares_75 : decode YX9_compares.2.1 75 = .ok (.goto 4, 3) := by decide +kernel
theorem dX9_compares_78 : decode YX9_compares.2.1 78 = .ok (.iconst 0, 1) := by decide +kernel
theorem dX9_compares_79 : decode YX9_compares.2.1 79 = .ok (.ireturn, 1) := by decide +kernel
theorem dX9_copyFrom_0 : decode YX9_copyFrom.2.1 0 = .ok (.aload_n 1, 1) := by decide +kernel
theorem dX9_copyFrom_1 : decode YX9_copyFrom.2.1 1 = .ok (.getfield 11, 3) := by decide +kernel
theorem dX9_copyFrom_4 : decode YX9_copyFrom.2.1 4 = .ok (.iconst 0, 1) := by decide +kernel
theorem dX9_copyFrom_5 : decode YX9_copyFrom.2.1 5 = .ok (.aload_n 0, 1) := by decide +kernel
theorem dX9_copyFrom_6 : decode YX9_copyFrom.2.1 6 = .ok (.getfield 11, 3) := by decide +kernel
theorem dX9_copyFrom_9 : decode YX9_copyFrom.2.1 9 = .ok (.iconst 0, 1) := by decide +kernel
theorem dX9_copyFrom_10 : decode YX9_copyFrom.2.1 10 = .ok (.bipush 40, 2) := by decide +kernel
theorem dX9_copyFrom_12 : decode YX9_copyFrom.2.1 12 = .ok (.invokestatic 44, 3) := by decide +kernel
theorem dX9_copyFrom_15 : decode YX9_copyFrom.2.1 15 = .ok (.aload_n 1, 1) := by decide +kernel
theorem dX9_copyFrom_16 : decode YX9_copyFrom.2.1 16 = .ok (.getfield 15, 3) := by decide +kernel
theorem dX9_copyFrom_19 : decode YX9_copyFrom.2.1 19 = .ok (.iconst 0, 1) := by decide +kernel
theorem dX9_copyFrom_20 : decode YX9_copyFrom.2.1 20 = .ok (.aload_n 0, 1) := by decide +kernel
theorem dX9_copyFrom_21 : decode YX9_copyFrom.2.1 21 = .ok (.getfield 15, 3) := by decide +kernel
theorem dX9_copyFrom_24 : decode YX9_copyFrom.2.1 24 = .ok (.iconst 0, 1) := by decide +kernel
theorem dX9_copyFrom_25 : decode YX9_copyFrom.2.1 25 = .ok (.bipush 40, 2) := by decide +kernel
theorem dX9_copyFrom_27 : decode YX9_copyFrom.2.1 27 = .ok (.invokestatic 44, 3) := by decide +kernel
theorem dX9_copyFrom_30 : decode YX9_copyFrom.2.1 30 = .ok (.aload_n 1, 1) := by decide +kernel
theorem dX9_copyFrom_31 : decode YX9_copyFrom.2.1 31 = .ok (.getfield 18, 3) := by decide +kernel
theorem dX9_copyFrom_34 : decode YX9_copyFrom.2.1 34 = .ok (.iconst 0, 1) := by decide +kernel
theorem dX9_copyFrom_35 : decode YX9_copyFrom.2.1 35 = .ok (.aload_n 0, 1) := by decide +kernel
theorem dX9_copyFrom_36 : decode YX9_copyFrom.2.1 36 = .ok (.getfield 18, 3) := by decide +kernel
theorem dX9_copyFrom_39 : decode YX9_copyFrom.2.1 39 = .ok (.iconst 0, 1) := by decide +kernel
theorem dX9_copyFrom_40 : decode YX9_copyFrom.2.1 40 = .ok (.bipush 40, 2) := by decide +kernel
theorem dX9_copyFrom_42 : decode YX9_copyFrom.2.1 42 = .ok (.invokestatic 44, 3) := by decide +kernel
theorem dX9_copyFrom_45 : decode YX9_copyFrom.2.1 45 = .ok (.aload_n 0, 1) := by decide +kernel
theorem dX9_copyFrom_46 : decode YX9_copyFrom.2.1 46 = .ok (.aload_n 1, 1) := by decide +kernel
theorem dX9_copyFrom_47 : decode YX9_copyFrom.2.1 47 = .ok (.getfield 35, 3) := by decide +kernel
theorem dX9_copyFrom_50 : decode YX9_copyFrom.2.1 50 = .ok (.putfield 35, 3) := by decide +kernel
theorem dX9_copyFrom_53 : decode YX9_copyFrom.2.1 53 = .ok (.aload_n 0, 1) := by decide +kernel
theorem dX9_copyFrom_54 : decode YX9_copyFrom.2.1 54 = .ok (.aload_n 1, 1) := by decide +kernel
theorem dX9_copyFrom_55 : decode YX9_copyFrom.2.1 55 = .ok (.getfield 31, 3) := by decide +kernel
theorem dX9_copyFrom_58 : decode YX9_copyFrom.2.1 58 = .ok (.putfield 31, 3) := by decide +kernel
theorem dX9_copyFrom_61 : decode YX9_copyFrom.2.1 61 = .ok (.aload_n 0, 1) := by decide +kernel
theorem dX9_copyFrom_62 : decode YX9_copyFrom.2.1 62 = .ok (.aload_n 1, 1) := by decide +kernel
theorem dX9_copyFrom_63 : decode YX9_copyFrom.2.1 63 = .ok (.getfield 27, 3) := by decide +kernel
theorem dX9_copyFrom_66 : decode YX9_copyFrom.2.1 66 = .ok (.putfield 27, 3) := by decide +kernel
theorem dX9_copyFrom_69 : decode YX9_copyFrom.2.1 69 = .ok (.return_, 1) := by decide +kernel
theorem dX9_endOne_0 : decode YX9_endOne.2.1 0 = .ok (.aload_n 0, 1) := by decide +kernel
theorem dX9_endOne_1 : decode YX9_endOne.2.1 1 = .ok (.iconst 0, 1) := by decide +kernel
theorem dX9_endOne_2 : decode YX9_endOne.2.1 2 = .ok (.putfield 53, 3) := by decide +kernel
theorem dX9_endOne_5 : decode YX9_endOne.2.1 5 = .ok (.iconst 0, 1) := by decide +kernel
theorem dX9_endOne_6 : decode YX9_endOne.2.1 6 = .ok (.istore_n 1, 1) := by decide +kernel
theorem dX9_endOne_7 : decode YX9_endOne.2.1 7 = .ok (.iload_n 1, 1) := by decide +kernel
theorem dX9_endOne_8 : decode YX9_endOne.2.1 8 = .ok (.bipush 8, 2) := by decide +kernel
theorem dX9_endOne_10 : decode YX9_endOne.2.1 10 = .ok (.if_icmp .ge 46, 3) := by decide +kernel
theorem dX9_endOne_13 : decode YX9_endOne.2.1 13 = .ok (.aload_n 0, 1) := by decide +kernel
theorem dX9_endOne_14 : decode YX9_endOne.2.1 14 = .ok (.invokevirtual 122, 3) := by decide +kernel
theorem dX9_endOne_17 : decode YX9_endOne.2.1 17 = .ok (.bipush 12, 2) := by decide +kernel
theorem dX9_endOne_19 : decode YX9_endOne.2.1 19 = .ok (.if_icmp .ne 37, 3) := by decide +kernel
theorem dX9_endOne_22 : decode YX9_endOne.2.1 22 = .ok (.aload_n 0, 1) := by decide +kernel
theorem dX9_endOne_23 : decode YX9_endOne.2.1 23 = .ok (.bipush 12, 2) := by decide +kernel
theorem dX9_endOne_25 : decode YX9_endOne.2.1 25 = .ok (.iconst (-1), 1) := by decide +kernel
theorem dX9_endOne_26 : decode YX9_endOne.2.1 26 = .ok (.iconst 0, 1) := by decide +kernel
theorem dX9_endOne_27 : decode YX9_endOne.2.1 27 = .ok (.invokevirtual 115, 3) := by decide +kernel
theorem dX9_endOne_30 : decode YX9_endOne.2.1 30 = .ok (.aload_n 0, 1) := by decide +kernel
theorem dX9_endOne_31 : decode YX9_endOne.2.1 31 = .ok (.dup, 1) := by decide +kernel
theorem dX9_endOne_32 : decode YX9_endOne.2.1 32 = .ok (.getfield 38, 3) := by decide +kernel
theorem dX9_endOne_35 : decode YX9_endOne.2.1 35 = .ok (.iconst 1, 1) := by decide +kernel
theorem dX9_endOne_36 : decode YX9_endOne.2.1 36 = .ok (.isub, 1) := by decide +kernel
theorem dX9_endOne_37 : decode YX9_endOne.2.1 37 = .ok (.putfield 38, 3) := by decide +kernel
theorem dX9_endOne_40 : decode YX9_endOne.2.1 40 = .ok (.aload_n 0, 1) := by decide +kernel
theorem dX9_endOne_41 : decode YX9_endOne.2.1 41 = .ok (.dup, 1) := by decide +kernel
theorem dX9_endOne_42 : decode YX9_endOne.2.1 42 = .ok (.getfield 41, 3) := by decide +kernel
theorem dX9_endOne_45 : decode YX9_endOne.2.1 45 = .ok (.iconst 1, 1) := by decide +kernel
theorem dX9_endOne_46 : decode YX9_endOne.2.1 46 = .ok (.isub, 1) := by decide +kernel
theorem dX9_endOne_47 : decode YX9_endOne.2.1 47 = .ok (.putfield 41, 3) := by decide +kernel
theorem dX9_endOne_50 : decode YX9_endOne.2.1 50 = .ok (.iinc 1 1, 3) := by decide +kernel
theorem dX9_endOne_53 : decode YX9_endOne.2.1 53 = .ok (.goto (-46), 3) := by decide +kernel
theorem dX9_endOne_56 : decode YX9_endOne.2.1 56 = .ok (.return_, 1) := by decide +kernel
theorem dX9_fitsPlain_0 : decode YX9_fitsPlain.2.1 0 = .ok (.aload_n 0, 1) := by decide +kernel
theorem dX9_fitsPlain_1 : decode YX9_fitsPlain.2.1 1 = .ok (.getfield 11, 3) := by decide +kernel
theorem dX9_fitsPlain_4 : decode YX9_fitsPlain.2.1 4 = .ok (.iload_n 2, 1) := by decide +kernel
theorem dX9_fitsPlain_5 : decode YX9_fitsPlain.2.1 5 = .ok (.iaload, 1) := by decide +kernel
theorem dX9_fitsPlain_6 : decode YX9_fitsPlain.2.1 6 = .ok (.tableswitch 156 13 20 #[46, 60, 74, 80, 100, 120, 131, 142], 46) := by decide +kernel
theorem dX9_fitsPlain_52 : decode YX9_fitsPlain.2.1 52 = .ok (.aload_n 1, 1) := by decide +kernel
theorem dX9_fitsPlain_53 : decode YX9_fitsPlain.2.1 53 = .ok (.iload_n 3, 1) := by decide +kernel
theorem dX9_fitsPlain_54 : decode YX9_fitsPlain.2.1 54 = .ok (.invokevirtual 138, 3) := by decide +kernel
theorem dX9_fitsPlain_57 : decode YX9_fitsPlain.2.1 57 = .ok (.ifCond .ne 7, 3) := by decide +kernel
theorem dX9_fitsPlain_60 : decode YX9_fitsPlain.2.1 60 = .ok (.iconst 1, 1) := by decide +kernel
theorem dX9_fitsPlain_61 : decode YX9_fitsPlain.2.1 61 = .ok (.goto 4, 3) := by decide +kernel
theorem dX9_fitsPlain_64 : decode YX9_fitsPlain.2.1 64 = .ok (.iconst 0, 1) := by decide +kernel
theorem dX9_fitsPlain_65 : decode YX9_fitsPlain.2.1 65 = .ok (.ireturn, 1) := by decide +kernel
theorem dX9_fitsPlain_66 : decode YX9_fitsPlain.2.1 66 = .ok (.aload_n 1, 1) := by decide +kernel
theorem dX9_fitsPlain_67 : decode YX9_fitsPlain.2.1 67 = .ok (.iload_n 3, 1) := by decide +kernel
theorem dX9_fitsPlain_68 : decode YX9_fitsPlain.2.1 68 = .ok (.invokevirtual 144, 3) := by decide +kernel
theorem dX9_fitsPlain_71 : decode YX9_fitsPlain.2.1 71 = .ok (.ifCond .eq 7, 3) := by decide +kernel
theorem dX9_fitsPlain_74 : decode YX9_fitsPlain.2.1 74 = .ok (.iconst 1, 1) := by decide +kernel
theorem dX9_fitsPlain_75 : decode YX9_fitsPlain.2.1 75 = .ok (.goto 4, 3) := by decide +kernel
theorem dX9_fitsPlain_78 : decode YX9_fitsPlain.2.1 78 = .ok (.iconst 0, 1) := by decide +kernel
theorem dX9_fitsPlain_79 : decode YX9_fitsPlain.2.1 79 = .ok (.ireturn, 1) := by decide +kernel
theorem dX9_fitsPlain_80 : decode YX9_fitsPlain.2.1 80 = .ok (.aload_n 1, 1) := by decide +kernel
theorem dX9_fitsPlain_81 : decode YX9_fitsPlain.2.1 81 = .ok (.iload_n 3, 1) := by decide +kernel
theorem dX9_fitsPlain_82 : decode YX9_fitsPlain.2.1 82 = .ok (.invokevirtual 147, 3) := by decide +kernel
theorem dX9_fitsPlain_85 : decode YX9_fitsPlain.2.1 85 = .ok (.ireturn, 1) := by decide +kernel
theorem dX9_fitsPlain_86 : decode YX9_fitsPlain.2.1 86 = .ok (.aload_n 1, 1) := by decide +kernel
theorem dX9_fitsPlain_87 : decode YX9_fitsPlain.2.1 87 = .ok (.iload_n 3, 1) := by decide +kernel
theorem dX9_fitsPlain_88 : decode YX9_fitsPlain.2.1 88 = .ok (.invokevirtual 150, 3) := by decide +kernel
theorem dX9_fitsPlain_91 : decode YX9_fitsPlain.2.1 91 = .ok (.aload_n 0, 1) := by decide +kernel
theorem dX9_fitsPlain_92 : decode YX9_fitsPlain.2.1 92 = .ok (.getfield 15, 3) := by decide +kernel
theorem dX9_fitsPlain_95 : decode YX9_fitsPlain.2.1 95 = .ok (.iload_n 2, 1) := by decide +kernel
theorem dX9_fitsPlain_96 : decode YX9_fitsPlain.2.1 96 = .ok (.iaload, 1) := by decide +kernel
theorem dX9_fitsPlain_97 : decode YX9_fitsPlain.2.1 97 = .ok (.if_icmp .ne 7, 3) := by decide +kernel
theorem dX9_fitsPlain_100 : decode YX9_fitsPlain.2.1 100 = .ok (.iconst 1, 1) := by decide +kernel
theorem dX9_fitsPlain_101 : decode YX9_fitsPlain.2.1 101 = .ok (.goto 4, 3) := by decide +kernel
theorem dX9_fitsPlain_104 : decode YX9_fitsPlain.2.1 104 = .ok (.iconst 0, 1) := by decide +kernel
theorem dX9_fitsPlain_105 : decode YX9_fitsPlain.2.1 105 = .ok (.ireturn, 1) := by decide +kernel
theorem dX9_fitsPlain_106 : decode YX9_fitsPlain.2.1 106 = .ok (.aload_n 1, 1) := by decide +kernel
theorem dX9_fitsPlain_107 : decode YX9_fitsPlain.2.1 107 = .ok (.iload_n 3, 1) := by decide +kernel
theorem dX9_fitsPlain_108 : decode YX9_fitsPlain.2.1 108 = .ok (.invokevirtual 153, 3) := by decide +kernel
theorem dX9_fitsPlain_111 : decode YX9_fitsPlain.2.1 111 = .ok (.aload_n 0, 1) := by decide +kernel
theorem dX9_fitsPlain_112 : decode YX9_fitsPlain.2.1 112 = .ok (.getfield 15, 3) := by decide +kernel
theorem dX9_fitsPlain_115 : decode YX9_fitsPlain.2.1 115 = .ok (.iload_n 2, 1) := by decide +kernel
theorem dX9_fitsPlain_116 : decode YX9_fitsPlain.2.1 116 = .ok (.iaload, 1) := by decide +kernel
theorem dX9_fitsPlain_117 : decode YX9_fitsPlain.2.1 117 = .ok (.if_icmp .ne 7, 3) := by decide +kernel
theorem dX9_fitsPlain_120 : decode YX9_fitsPlain.2.1 120 = .ok (.iconst 1, 1) := by decide +kernel
theorem dX9_fitsPlain_121 : decode YX9_fitsPlain.2.1 121 = .ok (.goto 4, 3) := by decide +kernel
theorem dX9_fitsPlain_124 : decode YX9_fitsPlain.2.1 124 = .ok (.iconst 0, 1) := by decide +kernel
theorem dX9_fitsPlain_125 : decode YX9_fitsPlain.2.1 125 = .ok (.ireturn, 1) := by decide +kernel
theorem dX9_fitsPlain_126 : decode YX9_fitsPlain.2.1 126 = .ok (.aload_n 0, 1) := by decide +kernel
theorem dX9_fitsPlain_127 : decode YX9_fitsPlain.2.1 127 = .ok (.aload_n 1, 1) := by decide +kernel
theorem dX9_fitsPlain_128 : decode YX9_fitsPlain.2.1 128 = .ok (.iload_n 3, 1) := by decide +kernel
theorem dX9_fitsPlain_129 : decode YX9_fitsPlain.2.1 129 = .ok (.invokevirtual 156, 3) := by decide +kernel
theorem dX9_fitsPlain_132 : decode YX9_fitsPlain.2.1 132 = .ok (.iload_n 2, 1) := by decide +kernel
theorem dX9_fitsPlain_133 : decode YX9_fitsPlain.2.1 133 = .ok (.invokevirtual 159, 3) := by decide +kernel
theorem dX9_fitsPlain_136 : decode YX9_fitsPlain.2.1 136 = .ok (.ireturn, 1) := by decide +kernel
theorem dX9_fitsPlain_137 : decode YX9_fitsPlain.2.1 137 = .ok (.aload_n 0, 1) := by decide +kernel
theorem dX9_fitsPlain_138 : decode YX9_fitsPlain.2.1 138 = .ok (.aload_n 1, 1) := by decide +kernel
theorem dX9_fitsPlain_139 : decode YX9_fitsPlain.2.1 139 = .ok (.iload_n 3, 1) := by decide +kernel
theorem dX9_fitsPlain_140 : decode YX9_fitsPlain.2.1 140 = .ok (.invokevirtual 163, 3) := by decide +kernel
theorem dX9_fitsPlain_143 : decode YX9_fitsPlain.2.1 143 = .ok (.iload_n 2, 1) := by decide +kernel
theorem dX9_fitsPlain_144 : decode YX9_fitsPlain.2.1 144 = .ok (.invokevirtual 159, 3) := by decide +kernel
theorem dX9_fitsPlain_147 : decode YX9_fitsPlain.2.1 147 = .ok (.ireturn, 1) := by decide +kernel
theorem dX9_fitsPlain_148 : decode YX9_fitsPlain.2.1 148 = .ok (.aload_n 0, 1) := by decide +kernel
theorem dX9_fitsPlain_149 : decode YX9_fitsPlain.2.1 149 = .ok (.aload_n 1, 1) := by decide +kernel
theorem dX9_fitsPlain_150 : decode YX9_fitsPlain.2.1 150 = .ok (.iload_n 3, 1) := by decide +kernel
theorem dX9_fitsPlain_151 : decode YX9_fitsPlain.2.1 151 = .ok (.invokevirtual 138, 3) := by decide +kernel
theorem dX9_fitsPlain_154 : decode YX9_fitsPlain.2.1 154 = .ok (.invokestatic 166, 3) := by decide +kernel
theorem dX9_fitsPlain_157 : decode YX9_fitsPlain.2.1 157 = .ok (.iload_n 2, 1) := by decide +kernel
theorem dX9_fitsPlain_158 : decode YX9_fitsPlain.2.1 158 = .ok (.invokevirtual 159, 3) := by decide +kernel
theorem dX9_fitsPlain_161 : decode YX9_fitsPlain.2.1 161 = .ok (.ireturn, 1) := by decide +kernel
theorem dX9_fitsPlain_162 : decode YX9_fitsPlain.2.1 162 = .ok (.aload_n 0, 1) := by decide +kernel
theorem dX9_fitsPlain_163 : decode YX9_fitsPlain.2.1 163 = .ok (.iload_n 3, 1) := by decide +kernel
theorem dX9_fitsPlain_164 : decode YX9_fitsPlain.2.1 164 = .ok (.iload_n 2, 1) := by decide +kernel
theorem dX9_fitsPlain_165 : decode YX9_fitsPlain.2.1 165 = .ok (.invokevirtual 159, 3) := by decide +kernel
theorem dX9_fitsPlain_168 : decode YX9_fitsPlain.2.1 168 = .ok (.ireturn, 1) := by decide +kernel
theorem dX9_isThere_0 : decode YX9_isThere.2.1 0 = .ok (.aload_n 0, 1) := by decide +kernel
theorem dX9_isThere_1 : decode YX9_isThere.2.1 1 = .ok (.getfield 27, 3) := by decide +kernel
theorem dX9_isThere_4 : decode YX9_isThere.2.1 4 = .ok (.ireturn, 1) := by decide +kernel
theorem dX9_lastWaiting_0 : decode YX9_lastWaiting.2.1 0 = .ok (.aload_n 0, 1) := by decide +kernel
theorem dX9_lastWaiting_1 : decode YX9_lastWaiting.2.1 1 = .ok (.getfield 38, 3) := by decide +kernel
theorem dX9_lastWaiting_4 : decode YX9_lastWaiting.2.1 4 = .ok (.ifCond .le 26, 3) := by decide +kernel
theorem dX9_lastWaiting_7 : decode YX9_lastWaiting.2.1 7 = .ok (.aload_n 0, 1) := by decide +kernel
theorem dX9_lastWaiting_8 : decode YX9_lastWaiting.2.1 8 = .ok (.getfield 38, 3) := by decide +kernel
theorem dX9_lastWaiting_11 : decode YX9_lastWaiting.2.1 11 = .ok (.bipush 40, 2) := by decide +kernel
theorem dX9_lastWaiting_13 : decode YX9_lastWaiting.2.1 13 = .ok (.if_icmp .gt 17, 3) := by decide +kernel
theorem dX9_lastWaiting_16 : decode YX9_lastWaiting.2.1 16 = .ok (.aload_n 0, 1) := by decide +kernel
theorem dX9_lastWaiting_17 : decode YX9_lastWaiting.2.1 17 = .ok (.getfield 21, 3) := by decide +kernel
theorem dX9_lastWaiting_20 : decode YX9_lastWaiting.2.1 20 = .ok (.aload_n 0, 1) := by decide +kernel
theorem dX9_lastWaiting_21 : decode YX9_lastWaiting.2.1 21 = .ok (.getfield 38, 3) := by decide +kernel
theorem dX9_lastWaiting_24 : decode YX9_lastWaiting.2.1 24 = .ok (.iconst 1, 1) := by decide +kernel
theorem dX9_lastWaiting_25 : decode YX9_lastWaiting.2.1 25 = .ok (.isub, 1) := by decide +kernel
theorem dX9_lastWaiting_26 : decode YX9_lastWaiting.2.1 26 = .ok (.iaload, 1) := by decide +kernel
theorem dX9_lastWaiting_27 : decode YX9_lastWaiting.2.1 27 = .ok (.goto 4, 3) := by decide +kernel
theorem dX9_lastWaiting_30 : decode YX9_lastWaiting.2.1 30 = .ok (.iconst (-1), 1) := by decide +kernel
theorem dX9_lastWaiting_31 : decode YX9_lastWaiting.2.1 31 = .ok (.ireturn, 1) := by decide +kernel
theorem dX9_ones_0 : decode YX9_ones.2.1 0 = .ok (.aload_n 0, 1) := by decide +kernel
theorem dX9_ones_1 : decode YX9_ones.2.1 1 = .ok (.getfield 31, 3) := by decide +kernel
theorem dX9_ones_4 : decode YX9_ones.2.1 4 = .ok (.ireturn, 1) := by decide +kernel
theorem dX9_readFrom_0 : decode YX9_readFrom.2.1 0 = .ok (.aload_n 0, 1) := by decide +kernel
theorem dX9_readFrom_1 : decode YX9_readFrom.2.1 1 = .ok (.invokevirtual 50, 3) := by decide +kernel
theorem dX9_readFrom_4 : decode YX9_readFrom.2.1 4 = .ok (.aload_n 0, 1) := by decide +kernel
theorem dX9_readFrom_5 : decode YX9_readFrom.2.1 5 = .ok (.iconst 1, 1) := by decide +kernel
theorem dX9_readFrom_6 : decode YX9_readFrom.2.1 6 = .ok (.putfield 53, 3) := by decide +kernel
theorem dX9_readFrom_9 : decode YX9_readFrom.2.1 9 = .ok (.iconst 0, 1) := by decide +kernel
theorem dX9_readFrom_10 : decode YX9_readFrom.2.1 10 = .ok (.istore_n 3, 1) := by decide +kernel
theorem dX9_readFrom_11 : decode YX9_readFrom.2.1 11 = .ok (.iload_n 3, 1) := by decide +kernel
theorem dX9_readFrom_12 : decode YX9_readFrom.2.1 12 = .ok (.sipush 200, 3) := by decide +kernel
theorem dX9_readFrom_15 : decode YX9_readFrom.2.1 15 = .ok (.if_icmp .gt 61, 3) := by decide +kernel
theorem dX9_readFrom_18 : decode YX9_readFrom.2.1 18 = .ok (.aload_n 1, 1) := by decide +kernel
theorem dX9_readFrom_19 : decode YX9_readFrom.2.1 19 = .ok (.invokevirtual 56, 3) := by decide +kernel
theorem dX9_readFrom_22 : decode YX9_readFrom.2.1 22 = .ok (.ifCond .eq 54, 3) := by decide +kernel
theorem dX9_readFrom_25 : decode YX9_readFrom.2.1 25 = .ok (.aload_n 0, 1) := by decide +kernel
theorem dX9_readFrom_26 : decode YX9_readFrom.2.1 26 = .ok (.getfield 53, 3) := by decide +kernel
theorem dX9_readFrom_29 : decode YX9_readFrom.2.1 29 = .ok (.ifCond .ne 20, 3) := by decide +kernel
theorem dX9_readFrom_32 : decode YX9_readFrom.2.1 32 = .ok (.aload_n 0, 1) := by decide +kernel
theorem dX9_readFrom_33 : decode YX9_readFrom.2.1 33 = .ok (.getfield 41, 3) := by decide +kernel
theorem dX9_readFrom_36 : decode YX9_readFrom.2.1 36 = .ok (.ifCond .ne 13, 3) := by decide +kernel
theorem dX9_readFrom_39 : decode YX9_readFrom.2.1 39 = .ok (.aload_n 1, 1) := by decide +kernel
theorem dX9_readFrom_40 : decode YX9_readFrom.2.1 40 = .ok (.invokevirtual 62, 3) := by decide +kernel
theorem dX9_readFrom_43 : decode YX9_readFrom.2.1 43 = .ok (.ifCond .eq 6, 3) := by decide +kernel
theorem dX9_readFrom_46 : decode YX9_readFrom.2.1 46 = .ok (.goto 30, 3) := by decide +kernel
theorem dX9_readFrom_49 : decode YX9_readFrom.2.1 49 = .ok (.aload_n 0, 1) := by decide +kernel
theorem dX9_readFrom_50 : decode YX9_readFrom.2.1 50 = .ok (.getfield 53, 3) := by decide +kernel
theorem dX9_readFrom_53 : decode YX9_readFrom.2.1 53 = .ok (.ifCond .eq 12, 3) := by decide +kernel
theorem dX9_readFrom_56 : decode YX9_readFrom.2.1 56 = .ok (.aload_n 0, 1) := by decide +kernel
theorem dX9_readFrom_57 : decode YX9_readFrom.2.1 57 = .ok (.aload_n 1, 1) := by decide +kernel
theorem dX9_readFrom_58 : decode YX9_readFrom.2.1 58 = .ok (.aload_n 2, 1) := by decide +kernel
theorem dX9_readFrom_59 : decode YX9_readFrom.2.1 59 = .ok (.invokevirtual 65, 3) := by decide +kernel
theorem dX9_readFrom_62 : decode YX9_readFrom.2.1 62 = .ok (.goto 8, 3) := by decide +kernel
theorem dX9_readFrom_65 : decode YX9_readFrom.2.1 65 = .ok (.aload_n 0, 1) := by decide +kernel
theorem dX9_readFrom_66 : decode YX9_readFrom.2.1 66 = .ok (.aload_n 1, 1) := by decide +kernel
theorem dX9_readFrom_67 : decode YX9_readFrom.2.1 67 = .ok (.invokevirtual 69, 3) := by decide +kernel
theorem dX9_readFrom_70 : decode YX9_readFrom.2.1 70 = .ok (.iinc 3 1, 3) := by decide +kernel
theorem dX9_readFrom_73 : decode YX9_readFrom.2.1 73 = .ok (.goto (-62), 3) := by decide +kernel
theorem dX9_readFrom_76 : decode YX9_readFrom.2.1 76 = .ok (.aload_n 0, 1) := by decide +kernel
theorem dX9_readFrom_77 : decode YX9_readFrom.2.1 77 = .ok (.bipush 10, 2) := by decide +kernel
theorem dX9_readFrom_79 : decode YX9_readFrom.2.1 79 = .ok (.invokevirtual 73, 3) := by decide +kernel
theorem dX9_readFrom_82 : decode YX9_readFrom.2.1 82 = .ok (.aload_n 0, 1) := by decide +kernel
theorem dX9_readFrom_83 : decode YX9_readFrom.2.1 83 = .ok (.aload_n 1, 1) := by decide +kernel
theorem dX9_readFrom_84 : decode YX9_readFrom.2.1 84 = .ok (.invokevirtual 56, 3) := by decide +kernel
theorem dX9_readFrom_87 : decode YX9_readFrom.2.1 87 = .ok (.putfield 27, 3) := by decide +kernel
theorem dX9_readFrom_90 : decode YX9_readFrom.2.1 90 = .ok (.return_, 1) := by decide +kernel
theorem dX9_readJoint_0 : decode YX9_readJoint.2.1 0 = .ok (.aload_n 1, 1) := by decide +kernel
theorem dX9_readJoint_1 : decode YX9_readJoint.2.1 1 = .ok (.invokevirtual 77, 3) := by decide +kernel
theorem dX9_readJoint_4 : decode YX9_readJoint.2.1 4 = .ok (.istore_n 2, 1) := by decide +kernel
theorem dX9_readJoint_5 : decode YX9_readJoint.2.1 5 = .ok (.iload_n 2, 1) := by decide +kernel
theorem dX9_readJoint_6 : decode YX9_readJoint.2.1 6 = .ok (.bipush 11, 2) := by decide +kernel
theorem dX9_readJoint_8 : decode YX9_readJoint.2.1 8 = .ok (.if_icmp .eq 9, 3) := by decide +kernel
theorem dX9_readJoint_11 : decode YX9_readJoint.2.1 11 = .ok (.iload_n 2, 1) := by decide +kernel
theorem dX9_readJoint_12 : decode YX9_readJoint.2.1 12 = .ok (.bipush 10, 2) := by decide +kernel
theorem dX9_readJoint_14 : decode YX9_readJoint.2.1 14 = .ok (.if_icmp .ne 25, 3) := by decide +kernel
theorem dX9_readJoint_17 : decode YX9_readJoint.2.1 17 = .ok (.aload_n 0, 1) := by decide +kernel
theorem dX9_readJoint_18 : decode YX9_readJoint.2.1 18 = .ok (.iload_n 2, 1) := by decide +kernel
theorem dX9_readJoint_19 : decode YX9_readJoint.2.1 19 = .ok (.invokevirtual 73, 3) := by decide +kernel
theorem dX9_readJoint_22 : decode YX9_readJoint.2.1 22 = .ok (.aload_n 0, 1) := by decide +kernel
theorem dX9_readJoint_23 : decode YX9_readJoint.2.1 23 = .ok (.iload_n 2, 1) := by decide +kernel
theorem dX9_readJoint_24 : decode YX9_readJoint.2.1 24 = .ok (.invokevirtual 91, 3) := by decide +kernel
theorem dX9_readJoint_27 : decode YX9_readJoint.2.1 27 = .ok (.aload_n 0, 1) := by decide +kernel
theorem dX9_readJoint_28 : decode YX9_readJoint.2.1 28 = .ok (.iconst 1, 1) := by decide +kernel
theorem dX9_readJoint_29 : decode YX9_readJoint.2.1 29 = .ok (.putfield 53, 3) := by decide +kernel
theorem dX9_readJoint_32 : decode YX9_readJoint.2.1 32 = .ok (.aload_n 1, 1) := by decide +kernel
theorem dX9_readJoint_33 : decode YX9_readJoint.2.1 33 = .ok (.invokevirtual 88, 3) := by decide +kernel
theorem dX9_readJoint_36 : decode YX9_readJoint.2.1 36 = .ok (.goto 35, 3) := by decide +kernel
theorem dX9_readJoint_39 : decode YX9_readJoint.2.1 39 = .ok (.aload_n 1, 1) := by decide +kernel
theorem dX9_readJoint_40 : decode YX9_readJoint.2.1 40 = .ok (.bipush 41, 2) := by decide +kernel
theorem dX9_readJoint_42 : decode YX9_readJoint.2.1 42 = .ok (.invokevirtual 81, 3) := by decide +kernel
theorem dX9_readJoint_45 : decode YX9_readJoint.2.1 45 = .ok (.ifCond .eq 21, 3) := by decide +kernel
theorem dX9_readJoint_48 : decode YX9_readJoint.2.1 48 = .ok (.aload_n 0, 1) := by decide +kernel
theorem dX9_readJoint_49 : decode YX9_readJoint.2.1 49 = .ok (.invokevirtual 119, 3) := by decide +kernel
theorem dX9_readJoint_52 : decode YX9_readJoint.2.1 52 = .ok (.ifCond .eq 14, 3) := by decide +kernel
theorem dX9_readJoint_55 : decode YX9_readJoint.2.1 55 = .ok (.aload_n 0, 1) := by decide +kernel
theorem dX9_readJoint_56 : decode YX9_readJoint.2.1 56 = .ok (.invokevirtual 98, 3) := by decide +kernel
theorem dX9_readJoint_59 : decode YX9_readJoint.2.1 59 = .ok (.aload_n 1, 1) := by decide +kernel
theorem dX9_readJoint_60 : decode YX9_readJoint.2.1 60 = .ok (.invokevirtual 88, 3) := by decide +kernel
theorem dX9_readJoint_63 : decode YX9_readJoint.2.1 63 = .ok (.goto 8, 3) := by decide +kernel
theorem dX9_readJoint_66 : decode YX9_readJoint.2.1 66 = .ok (.aload_n 1, 1) := by decide +kernel
theorem dX9_readJoint_67 : decode YX9_readJoint.2.1 67 = .ok (.iconst 1, 1) := by decide +kernel
theorem dX9_readJoint_68 : decode YX9_readJoint.2.1 68 = .ok (.invokevirtual 85, 3) := by decide +kernel
theorem dX9_readJoint_71 : decode YX9_readJoint.2.1 71 = .ok (.return_, 1) := by decide +kernel
theorem dX9_readOne_0 : decode YX9_readOne.2.1 0 = .ok (.aload_n 1, 1) := by decide +kernel
theorem dX9_readOne_1 : decode YX9_readOne.2.1 1 = .ok (.invokevirtual 77, 3) := by decide +kernel
theorem dX9_readOne_4 : decode YX9_readOne.2.1 4 = .ok (.istore_n 3, 1) := by decide +kernel
theorem dX9_readOne_5 : decode YX9_readOne.2.1 5 = .ok (.aload_n 1, 1) := by decide +kernel
theorem dX9_readOne_6 : decode YX9_readOne.2.1 6 = .ok (.bipush 40, 2) := by decide +kernel
theorem dX9_readOne_8 : decode YX9_readOne.2.1 8 = .ok (.invokevirtual 81, 3) := by decide +kernel
theorem dX9_readOne_11 : decode YX9_readOne.2.1 11 = .ok (.istore 4, 2) := by decide +kernel
theorem dX9_readOne_13 : decode YX9_readOne.2.1 13 = .ok (.iload 4, 2) := by decide +kernel
theorem dX9_readOne_15 : decode YX9_readOne.2.1 15 = .ok (.ifCond .ne 14, 3) := by decide +kernel
theorem dX9_readOne_18 : decode YX9_readOne.2.1 18 = .ok (.iload_n 3, 1) := by decide +kernel
theorem dX9_readOne_19 : decode YX9_readOne.2.1 19 = .ok (.bipush 12, 2) := by decide +kernel
theorem dX9_readOne_21 : decode YX9_readOne.2.1 21 = .ok (.if_icmp .ge 8, 3) := by decide +kernel
theorem dX9_readOne_24 : decode YX9_readOne.2.1 24 = .ok (.aload_n 1, 1) := by decide +kernel
theorem dX9_readOne_25 : decode YX9_readOne.2.1 25 = .ok (.iconst 1, 1) := by decide +kernel
theorem dX9_readOne_26 : decode YX9_readOne.2.1 26 = .ok (.invokevirtual 85, 3) := by decide +kernel
theorem dX9_readOne_29 : decode YX9_readOne.2.1 29 = .ok (.aload_n 0, 1) := by decide +kernel
theorem dX9_readOne_30 : decode YX9_readOne.2.1 30 = .ok (.getfield 31, 3) := by decide +kernel
theorem dX9_readOne_33 : decode YX9_readOne.2.1 33 = .ok (.bipush 20, 2) := by decide +kernel
theorem dX9_readOne_35 : decode YX9_readOne.2.1 35 = .ok (.if_icmp .ge 12, 3) := by decide +kernel
theorem dX9_readOne_38 : decode YX9_readOne.2.1 38 = .ok (.aload_n 0, 1) := by decide +kernel
theorem dX9_readOne_39 : decode YX9_readOne.2.1 39 = .ok (.getfield 41, 3) := by decide +kernel
theorem dX9_readOne_42 : decode YX9_readOne.2.1 42 = .ok (.bipush 8, 2) := by decide +kernel
theorem dX9_readOne_44 : decode YX9_readOne.2.1 44 = .ok (.if_icmp .lt 8, 3) := by decide +kernel
theorem dX9_readOne_47 : decode YX9_readOne.2.1 47 = .ok (.aload_n 1, 1) := by decide +kernel
theorem dX9_readOne_48 : decode YX9_readOne.2.1 48 = .ok (.iconst 4, 1) := by decide +kernel
theorem dX9_readOne_49 : decode YX9_readOne.2.1 49 = .ok (.invokevirtual 85, 3) := by decide +kernel
theorem dX9_readOne_52 : decode YX9_readOne.2.1 52 = .ok (.aload_n 0, 1) := by decide +kernel
theorem dX9_readOne_53 : decode YX9_readOne.2.1 53 = .ok (.dup, 1) := by decide +kernel
theorem dX9_readOne_54 : decode YX9_readOne.2.1 54 = .ok (.getfield 31, 3) := by decide +kernel
theorem dX9_readOne_57 : decode YX9_readOne.2.1 57 = .ok (.iconst 1, 1) := by decide +kernel
theorem dX9_readOne_58 : decode YX9_readOne.2.1 58 = .ok (.iadd, 1) := by decide +kernel
theorem dX9_readOne_59 : decode YX9_readOne.2.1 59 = .ok (.putfield 31, 3) := by decide +kernel
theorem dX9_readOne_62 : decode YX9_readOne.2.1 62 = .ok (.aload_n 1, 1) := by decide +kernel
theorem dX9_readOne_63 : decode YX9_readOne.2.1 63 = .ok (.invokevirtual 88, 3) := by decide +kernel
theorem dX9_readOne_66 : decode YX9_readOne.2.1 66 = .ok (.iload 4, 2) := by decide +kernel
theorem dX9_readOne_68 : decode YX9_readOne.2.1 68 = .ok (.ifCond .ne 9, 3) := by decide +kernel
theorem dX9_readOne_71 : decode YX9_readOne.2.1 71 = .ok (.iload_n 3, 1) := by decide +kernel
theorem dX9_readOne_72 : decode YX9_readOne.2.1 72 = .ok (.bipush 12, 2) := by decide +kernel
theorem dX9_readOne_74 : decode YX9_readOne.2.1 74 = .ok (.if_icmp .ne 32, 3) := by decide +kernel
theorem dX9_readOne_77 : decode YX9_readOne.2.1 77 = .ok (.aload_n 0, 1) := by decide +kernel
theorem dX9_readOne_78 : decode YX9_readOne.2.1 78 = .ok (.iload 4, 2) := by decide +kernel
theorem dX9_readOne_80 : decode YX9_readOne.2.1 80 = .ok (.ifCond .eq 8, 3) := by decide +kernel
theorem dX9_readOne_83 : decode YX9_readOne.2.1 83 = .ok (.bipush 22, 2) := by decide +kernel
theorem dX9_readOne_85 : decode YX9_readOne.2.1 85 = .ok (.goto 5, 3) := by decide +kernel
theorem dX9_readOne_88 : decode YX9_readOne.2.1 88 = .ok (.bipush 12, 2) := by decide +kernel
theorem dX9_readOne_90 : decode YX9_readOne.2.1 90 = .ok (.invokevirtual 91, 3) := by decide +kernel
theorem dX9_readOne_93 : decode YX9_readOne.2.1 93 = .ok (.aload_n 0, 1) := by decide +kernel
theorem dX9_readOne_94 : decode YX9_readOne.2.1 94 = .ok (.dup, 1) := by decide +kernel
theorem dX9_readOne_95 : decode YX9_readOne.2.1 95 = .ok (.getfield 41, 3) := by decide +kernel
theorem dX9_readOne_98 : decode YX9_readOne.2.1 98 = .ok (.iconst 1, 1) := by decide +kernel
theorem dX9_readOne_99 : decode YX9_readOne.2.1 99 = .ok (.iadd, 1) := by decide +kernel
theorem dX9_readOne_100 : decode YX9_readOne.2.1 100 = .ok (.putfield 41, 3) := by decide +kernel
theorem dX9_readOne_103 : decode YX9_readOne.2.1 103 = .ok (.goto 14, 3) := by decide +kernel
theorem dX9_readOne_106 : decode YX9_readOne.2.1 106 = .ok (.aload_n 0, 1) := by decide +kernel
theorem dX9_readOne_107 : decode YX9_readOne.2.1 107 = .ok (.aload_n 1, 1) := by decide +kernel
theorem dX9_readOne_108 : decode YX9_readOne.2.1 108 = .ok (.aload_n 2, 1) := by decide +kernel
theorem dX9_readOne_109 : decode YX9_readOne.2.1 109 = .ok (.iload_n 3, 1) := by decide +kernel
theorem dX9_readOne_110 : decode YX9_readOne.2.1 110 = .ok (.invokevirtual 94, 3) := by decide +kernel
theorem dX9_readOne_113 : decode YX9_readOne.2.1 113 = .ok (.aload_n 0, 1) := by decide +kernel
theorem dX9_readOne_114 : decode YX9_readOne.2.1 114 = .ok (.invokevirtual 98, 3) := by decide +kernel
theorem dX9_readOne_117 : decode YX9_readOne.2.1 117 = .ok (.return_, 1) := by decide +kernel
theorem dX9_readPlain_0 : decode YX9_readPlain.2.1 0 = .ok (.iconst (-1), 1) := by decide +kernel
theorem dX9_readPlain_1 : decode YX9_readPlain.2.1 1 = .ok (.istore 4, 2) := by decide +kernel
theorem dX9_readPlain_3 : decode YX9_readPlain.2.1 3 = .ok (.iconst 0, 1) := by decide +kernel
theorem dX9_readPlain_4 : decode YX9_readPlain.2.1 4 = .ok (.istore 5, 2) := by decide +kernel
theorem dX9_readPlain_6 : decode YX9_readPlain.2.1 6 = .ok (.iload_n 3, 1) := by decide +kernel
theorem dX9_readPlain_7 : decode YX9_readPlain.2.1 7 = .ok (.bipush 16, 2) := by decide +kernel
theorem dX9_readPlain_9 : decode YX9_readPlain.2.1 9 = .ok (.if_icmp .ne 17, 3) := by decide +kernel
theorem dX9_readPlain_12 : decode YX9_readPlain.2.1 12 = .ok (.aload_n 1, 1) := by decide +kernel
theorem dX9_readPlain_13 : decode YX9_readPlain.2.1 13 = .ok (.aload_n 2, 1) := by decide +kernel
theorem dX9_readPlain_14 : decode YX9_readPlain.2.1 14 = .ok (.invokevirtual 101, 3) := by decide +kernel
theorem dX9_readPlain_17 : decode YX9_readPlain.2.1 17 = .ok (.istore 4, 2) := by decide +kernel
theorem dX9_readPlain_19 : decode YX9_readPlain.2.1 19 = .ok (.aload_n 1, 1) := by decide +kernel
theorem dX9_readPlain_20 : decode YX9_readPlain.2.1 20 = .ok (.invokevirtual 88, 3) := by decide +kernel
theorem dX9_readPlain_23 : decode YX9_readPlain.2.1 23 = .ok (.goto 45, 3) := by decide +kernel
theorem dX9_readPlain_26 : decode YX9_readPlain.2.1 26 = .ok (.iload_n 3, 1) := by decide +kernel
theorem dX9_readPlain_27 : decode YX9_readPlain.2.1 27 = .ok (.bipush 17, 2) := by decide +kernel
theorem dX9_readPlain_29 : decode YX9_readPlain.2.1 29 = .ok (.if_icmp .ne 17, 3) := by decide +kernel
theorem dX9_readPlain_32 : decode YX9_readPlain.2.1 32 = .ok (.aload_n 1, 1) := by decide +kernel
theorem dX9_readPlain_33 : decode YX9_readPlain.2.1 33 = .ok (.aload_n 2, 1) := by decide +kernel
theorem dX9_readPlain_34 : decode YX9_readPlain.2.1 34 = .ok (.invokevirtual 105, 3) := by decide +kernel
theorem dX9_readPlain_37 : decode YX9_readPlain.2.1 37 = .ok (.istore 4, 2) := by decide +kernel
theorem dX9_readPlain_39 : decode YX9_readPlain.2.1 39 = .ok (.aload_n 1, 1) := by decide +kernel
theorem dX9_readPlain_40 : decode YX9_readPlain.2.1 40 = .ok (.invokevirtual 88, 3) := by decide +kernel
theorem dX9_readPlain_43 : decode YX9_readPlain.2.1 43 = .ok (.goto 25, 3) := by decide +kernel
theorem dX9_readPlain_46 : decode YX9_readPlain.2.1 46 = .ok (.iload_n 3, 1) := by decide +kernel
theorem dX9_readPlain_47 : decode YX9_readPlain.2.1 47 = .ok (.bipush 18, 2) := by decide +kernel
theorem dX9_readPlain_49 : decode YX9_readPlain.2.1 49 = .ok (.if_icmp .lt 19, 3) := by decide +kernel
theorem dX9_readPlain_52 : decode YX9_readPlain.2.1 52 = .ok (.aload_n 1, 1) := by decide +kernel
theorem dX9_readPlain_53 : decode YX9_readPlain.2.1 53 = .ok (.invokevirtual 108, 3) := by decide +kernel
theorem dX9_readPlain_56 : decode YX9_readPlain.2.1 56 = .ok (.istore 4, 2) := by decide +kernel
theorem dX9_readPlain_58 : decode YX9_readPlain.2.1 58 = .ok (.aload_n 1, 1) := by decide +kernel
theorem dX9_readPlain_59 : decode YX9_readPlain.2.1 59 = .ok (.iconst 0, 1) := by decide +kernel
theorem dX9_readPlain_60 : decode YX9_readPlain.2.1 60 = .ok (.sipush 999, 3) := by decide +kernel
theorem dX9_readPlain_63 : decode YX9_readPlain.2.1 63 = .ok (.invokevirtual 111, 3) := by decide +kernel
theorem dX9_readPlain_66 : decode YX9_readPlain.2.1 66 = .ok (.istore 5, 2) := by decide +kernel
theorem dX9_readPlain_68 : decode YX9_readPlain.2.1 68 = .ok (.aload_n 0, 1) := by decide +kernel
theorem dX9_readPlain_69 : decode YX9_readPlain.2.1 69 = .ok (.iload_n 3, 1) := by decide +kernel
theorem dX9_readPlain_70 : decode YX9_readPlain.2.1 70 = .ok (.iload 4, 2) := by decide +kernel
theorem dX9_readPlain_72 : decode YX9_readPlain.2.1 72 = .ok (.iload 5, 2) := by decide +kernel
theorem dX9_readPlain_74 : decode YX9_readPlain.2.1 74 = .ok (.invokevirtual 115, 3) := by decide +kernel
theorem dX9_readPlain_77 : decode YX9_readPlain.2.1 77 = .ok (.return_, 1) := by decide +kernel
theorem dX9_settleBracket_0 : decode YX9_settleBracket.2.1 0 = .ok (.aload_n 0, 1) := by decide +kernel
theorem dX9_settleBracket_1 : decode YX9_settleBracket.2.1 1 = .ok (.bipush 10, 2) := by decide +kernel
theorem dX9_settleBracket_3 : decode YX9_settleBracket.2.1 3 = .ok (.invokevirtual 73, 3) := by decide +kernel
theorem dX9_settleBracket_6 : decode YX9_settleBracket.2.1 6 = .ok (.aload_n 0, 1) := by decide +kernel
theorem dX9_settleBracket_7 : decode YX9_settleBracket.2.1 7 = .ok (.invokevirtual 122, 3) := by decide +kernel
theorem dX9_settleBracket_10 : decode YX9_settleBracket.2.1 10 = .ok (.bipush 22, 2) := by decide +kernel
theorem dX9_settleBracket_12 : decode YX9_settleBracket.2.1 12 = .ok (.if_icmp .eq 5, 3) := by decide +kernel
theorem dX9_settleBracket_15 : decode YX9_settleBracket.2.1 15 = .ok (.iconst 0, 1) := by decide +kernel
theorem dX9_settleBracket_16 : decode YX9_settleBracket.2.1 16 = .ok (.ireturn, 1) := by decide +kernel
theorem dX9_settleBracket_17 : decode YX9_settleBracket.2.1 17 = .ok (.aload_n 0, 1) := by decide +kernel
theorem dX9_settleBracket_18 : decode YX9_settleBracket.2.1 18 = .ok (.dup, 1) := by decide +kernel
theorem dX9_settleBracket_19 : decode YX9_settleBracket.2.1 19 = .ok (.getfield 38, 3) := by decide +kernel
theorem dX9_settleBracket_22 : decode YX9_settleBracket.2.1 22 = .ok (.iconst 1, 1) := by decide +kernel
theorem dX9_settleBracket_23 : decode YX9_settleBracket.2.1 23 = .ok (.isub, 1) := by decide +kernel
theorem dX9_settleBracket_24 : decode YX9_settleBracket.2.1 24 = .ok (.putfield 38, 3) := by decide +kernel
theorem dX9_settleBracket_27 : decode YX9_settleBracket.2.1 27 = .ok (.aload_n 0, 1) := by decide +kernel
theorem dX9_settleBracket_28 : decode YX9_settleBracket.2.1 28 = .ok (.dup, 1) := by decide +kernel
theorem dX9_settleBracket_29 : decode YX9_settleBracket.2.1 29 = .ok (.getfield 41, 3) := by decide +kernel
theorem dX9_settleBracket_32 : decode YX9_settleBracket.2.1 32 = .ok (.iconst 1, 1) := by decide +kernel
theorem dX9_settleBracket_33 : decode YX9_settleBracket.2.1 33 = .ok (.isub, 1) := by decide +kernel
theorem dX9_settleBracket_34 : decode YX9_settleBracket.2.1 34 = .ok (.putfield 41, 3) := by decide +kernel
theorem dX9_settleBracket_37 : decode YX9_settleBracket.2.1 37 = .ok (.iconst 1, 1) := by decide +kernel
theorem dX9_settleBracket_38 : decode YX9_settleBracket.2.1 38 = .ok (.ireturn, 1) := by decide +kernel
theorem dX9_settleWaiting_0 : decode YX9_settleWaiting.2.1 0 = .ok (.iconst 0, 1) := by decide +kernel
theorem dX9_settleWaiting_1 : decode YX9_settleWaiting.2.1 1 = .ok (.istore_n 2, 1) := by decide +kernel
theorem dX9_settleWaiting_2 : decode YX9_settleWaiting.2.1 2 = .ok (.iload_n 2, 1) := by decide +kernel
theorem dX9_settleWaiting_3 : decode YX9_settleWaiting.2.1 3 = .ok (.bipush 40, 2) := by decide +kernel
theorem dX9_settleWaiting_5 : decode YX9_settleWaiting.2.1 5 = .ok (.if_icmp .ge 52, 3) := by decide +kernel
theorem dX9_settleWaiting_8 : decode YX9_settleWaiting.2.1 8 = .ok (.aload_n 0, 1) := by decide +kernel
theorem dX9_settleWaiting_9 : decode YX9_settleWaiting.2.1 9 = .ok (.invokevirtual 122, 3) := by decide +kernel
theorem dX9_settleWaiting_12 : decode YX9_settleWaiting.2.1 12 = .ok (.istore_n 3, 1) := by decide +kernel
theorem dX9_settleWaiting_13 : decode YX9_settleWaiting.2.1 13 = .ok (.iload_n 3, 1) := by decide +kernel
theorem dX9_settleWaiting_14 : decode YX9_settleWaiting.2.1 14 = .ok (.bipush 11, 2) := by decide +kernel
theorem dX9_settleWaiting_16 : decode YX9_settleWaiting.2.1 16 = .ok (.if_icmp .eq 18, 3) := by decide +kernel
theorem dX9_settleWaiting_19 : decode YX9_settleWaiting.2.1 19 = .ok (.iload_n 3, 1) := by decide +kernel
theorem dX9_settleWaiting_20 : decode YX9_settleWaiting.2.1 20 = .ok (.bipush 10, 2) := by decide +kernel
theorem dX9_settleWaiting_22 : decode YX9_settleWaiting.2.1 22 = .ok (.if_icmp .ne 35, 3) := by decide +kernel
theorem dX9_settleWaiting_25 : decode YX9_settleWaiting.2.1 25 = .ok (.iload_n 1, 1) := by decide +kernel
theorem dX9_settleWaiting_26 : decode YX9_settleWaiting.2.1 26 = .ok (.bipush 10, 2) := by decide +kernel
theorem dX9_settleWaiting_28 : decode YX9_settleWaiting.2.1 28 = .ok (.if_icmp .eq 6, 3) := by decide +kernel
theorem dX9_settleWaiting_31 : decode YX9_settleWaiting.2.1 31 = .ok (.goto 26, 3) := by decide +kernel
theorem dX9_settleWaiting_34 : decode YX9_settleWaiting.2.1 34 = .ok (.aload_n 0, 1) := by decide +kernel
theorem dX9_settleWaiting_35 : decode YX9_settleWaiting.2.1 35 = .ok (.iload_n 3, 1) := by decide +kernel
theorem dX9_settleWaiting_36 : decode YX9_settleWaiting.2.1 36 = .ok (.iconst (-1), 1) := by decide +kernel
theorem dX9_settleWaiting_37 : decode YX9_settleWaiting.2.1 37 = .ok (.iconst 0, 1) := by decide +kernel
theorem dX9_settleWaiting_38 : decode YX9_settleWaiting.2.1 38 = .ok (.invokevirtual 115, 3) := by decide +kernel
theorem dX9_settleWaiting_41 : decode YX9_settleWaiting.2.1 41 = .ok (.aload_n 0, 1) := by decide +kernel
theorem dX9_settleWaiting_42 : decode YX9_settleWaiting.2.1 42 = .ok (.dup, 1) := by decide +kernel
theorem dX9_settleWaiting_43 : decode YX9_settleWaiting.2.1 43 = .ok (.getfield 38, 3) := by decide +kernel
theorem dX9_settleWaiting_46 : decode YX9_settleWaiting.2.1 46 = .ok (.iconst 1, 1) := by decide +kernel
theorem dX9_settleWaiting_47 : decode YX9_settleWaiting.2.1 47 = .ok (.isub, 1) := by decide +kernel
theorem dX9_settleWaiting_48 : decode YX9_settleWaiting.2.1 48 = .ok (.putfield 38, 3) := by decide +kernel
theorem dX9_settleWaiting_51 : decode YX9_settleWaiting.2.1 51 = .ok (.iinc 2 1, 3) := by decide +kernel
theorem dX9_settleWaiting_54 : decode YX9_settleWaiting.2.1 54 = .ok (.goto (-52), 3) := by decide +kernel
theorem dX9_settleWaiting_57 : decode YX9_settleWaiting.2.1 57 = .ok (.return_, 1) := by decide +kernel
theorem dX9_whoFits_0 : decode YX9_whoFits.2.1 0 = .ok (.iconst 1, 1) := by decide +kernel
theorem dX9_whoFits_1 : decode YX9_whoFits.2.1 1 = .ok (.aload_n 1, 1) := by decide +kernel
theorem dX9_whoFits_2 : decode YX9_whoFits.2.1 2 = .ok (.invokevirtual 125, 3) := by decide +kernel
theorem dX9_whoFits_5 : decode YX9_whoFits.2.1 5 = .ok (.ishl, 1) := by decide +kernel
theorem dX9_whoFits_6 : decode YX9_whoFits.2.1 6 = .ok (.iconst 1, 1) := by decide +kernel
theorem dX9_whoFits_7 : decode YX9_whoFits.2.1 7 = .ok (.isub, 1) := by decide +kernel
theorem dX9_whoFits_8 : decode YX9_whoFits.2.1 8 = .ok (.istore_n 3, 1) := by decide +kernel
theorem dX9_whoFits_9 : decode YX9_whoFits.2.1 9 = .ok (.iconst 0, 1) := by decide +kernel
theorem dX9_whoFits_10 : decode YX9_whoFits.2.1 10 = .ok (.istore 4, 2) := by decide +kernel
theorem dX9_whoFits_12 : decode YX9_whoFits.2.1 12 = .ok (.iconst 0, 1) := by decide +kernel
theorem dX9_whoFits_13 : decode YX9_whoFits.2.1 13 = .ok (.istore 5, 2) := by decide +kernel
theorem dX9_whoFits_15 : decode YX9_whoFits.2.1 15 = .ok (.iload 5, 2) := by decide +kernel
theorem dX9_whoFits_17 : decode YX9_whoFits.2.1 17 = .ok (.aload_n 0, 1) := by decide +kernel
theorem dX9_whoFits_18 : decode YX9_whoFits.2.1 18 = .ok (.getfield 35, 3) := by decide +kernel
theorem dX9_whoFits_21 : decode YX9_whoFits.2.1 21 = .ok (.if_icmp .ge 166, 3) := by decide +kernel
theorem dX9_whoFits_24 : decode YX9_whoFits.2.1 24 = .ok (.iload 5, 2) := by decide +kernel
theorem dX9_whoFits_26 : decode YX9_whoFits.2.1 26 = .ok (.bipush 40, 2) := by decide +kernel
theorem dX9_whoFits_28 : decode YX9_whoFits.2.1 28 = .ok (.if_icmp .ge 159, 3) := by decide +kernel
theorem dX9_whoFits_31 : decode YX9_whoFits.2.1 31 = .ok (.aload_n 0, 1) := by decide +kernel
theorem dX9_whoFits_32 : decode YX9_whoFits.2.1 32 = .ok (.getfield 11, 3) := by decide +kernel
theorem dX9_whoFits_35 : decode YX9_whoFits.2.1 35 = .ok (.iload 5, 2) := by decide +kernel
theorem dX9_whoFits_37 : decode YX9_whoFits.2.1 37 = .ok (.iaload, 1) := by decide +kernel
theorem dX9_whoFits_38 : decode YX9_whoFits.2.1 38 = .ok (.istore 6, 2) := by decide +kernel
theorem dX9_whoFits_40 : decode YX9_whoFits.2.1 40 = .ok (.iload 6, 2) := by decide +kernel
theorem dX9_whoFits_42 : decode YX9_whoFits.2.1 42 = .ok (.bipush 12, 2) := by decide +kernel
theorem dX9_whoFits_44 : decode YX9_whoFits.2.1 44 = .ok (.if_icmp .ne 33, 3) := by decide +kernel
theorem dX9_whoFits_47 : decode YX9_whoFits.2.1 47 = .ok (.iload 4, 2) := by decide +kernel
theorem dX9_whoFits_49 : decode YX9_whoFits.2.1 49 = .ok (.ifCond .le 28, 3) := by decide +kernel
theorem dX9_whoFits_52 : decode YX9_whoFits.2.1 52 = .ok (.aload_n 0, 1) := by decide +kernel
theorem dX9_whoFits_53 : decode YX9_whoFits.2.1 53 = .ok (.getfield 24, 3) := by decide +kernel
theorem dX9_whoFits_56 : decode YX9_whoFits.2.1 56 = .ok (.iload 4, 2) := by decide +kernel
theorem dX9_whoFits_58 : decode YX9_whoFits.2.1 58 = .ok (.iconst 1, 1) := by decide +kernel
theorem dX9_whoFits_59 : decode YX9_whoFits.2.1 59 = .ok (.isub, 1) := by decide +kernel
theorem dX9_whoFits_60 : decode YX9_whoFits.2.1 60 = .ok (.iload_n 3, 1) := by decide +kernel
theorem dX9_whoFits_61 : decode YX9_whoFits.2.1 61 = .ok (.aload_n 0, 1) := by decide +kernel
theorem dX9_whoFits_62 : decode YX9_whoFits.2.1 62 = .ok (.getfield 24, 3) := by decide +kernel
theorem dX9_whoFits_65 : decode YX9_whoFits.2.1 65 = .ok (.iload 4, 2) := by decide +kernel
theorem dX9_whoFits_67 : decode YX9_whoFits.2.1 67 = .ok (.iconst 1, 1) := by decide +kernel
theorem dX9_whoFits_68 : decode YX9_whoFits.2.1 68 = .ok (.isub, 1) := by decide +kernel
theorem dX9_whoFits_69 : decode YX9_whoFits.2.1 69 = .ok (.iaload, 1) := by decide +kernel
theorem dX9_whoFits_70 : decode YX9_whoFits.2.1 70 = .ok (.iconst (-1), 1) := by decide +kernel
theorem dX9_whoFits_71 : decode YX9_whoFits.2.1 71 = .ok (.ixor, 1) := by decide +kernel
theorem dX9_whoFits_72 : decode YX9_whoFits.2.1 72 = .ok (.iand, 1) := by decide +kernel
theorem dX9_whoFits_73 : decode YX9_whoFits.2.1 73 = .ok (.iastore, 1) := by decide +kernel
theorem dX9_whoFits_74 : decode YX9_whoFits.2.1 74 = .ok (.goto 107, 3) := by decide +kernel
theorem dX9_whoFits_77 : decode YX9_whoFits.2.1 77 = .ok (.iload 6, 2) := by decide +kernel
theorem dX9_whoFits_79 : decode YX9_whoFits.2.1 79 = .ok (.bipush 11, 2) := by decide +kernel
theorem dX9_whoFits_81 : decode YX9_whoFits.2.1 81 = .ok (.if_icmp .eq 10, 3) := by decide +kernel
theorem dX9_whoFits_84 : decode YX9_whoFits.2.1 84 = .ok (.iload 6, 2) := by decide +kernel
theorem dX9_whoFits_86 : decode YX9_whoFits.2.1 86 = .ok (.bipush 10, 2) := by decide +kernel
theorem dX9_whoFits_88 : decode YX9_whoFits.2.1 88 = .ok (.if_icmp .ne 68, 3) := by decide +kernel
theorem dX9_whoFits_91 : decode YX9_whoFits.2.1 91 = .ok (.iload 4, 2) := by decide +kernel
theorem dX9_whoFits_93 : decode YX9_whoFits.2.1 93 = .ok (.iconst 1, 1) := by decide +kernel
theorem dX9_whoFits_94 : decode YX9_whoFits.2.1 94 = .ok (.if_icmp .le 62, 3) := by decide +kernel
theorem dX9_whoFits_97 : decode YX9_whoFits.2.1 97 = .ok (.iinc 4 (-1), 3) := by decide +kernel
theorem dX9_whoFits_100 : decode YX9_whoFits.2.1 100 = .ok (.aload_n 0, 1) := by decide +kernel
theorem dX9_whoFits_101 : decode YX9_whoFits.2.1 101 = .ok (.getfield 24, 3) := by decide +kernel
theorem dX9_whoFits_104 : decode YX9_whoFits.2.1 104 = .ok (.iload 4, 2) := by decide +kernel
theorem dX9_whoFits_106 : decode YX9_whoFits.2.1 106 = .ok (.iconst 1, 1) := by decide +kernel
theorem dX9_whoFits_107 : decode YX9_whoFits.2.1 107 = .ok (.isub, 1) := by decide +kernel
theorem dX9_whoFits_108 : decode YX9_whoFits.2.1 108 = .ok (.iload 6, 2) := by decide +kernel
theorem dX9_whoFits_110 : decode YX9_whoFits.2.1 110 = .ok (.bipush 11, 2) := by decide +kernel
theorem dX9_whoFits_112 : decode YX9_whoFits.2.1 112 = .ok (.if_icmp .ne 23, 3) := by decide +kernel
theorem dX9_whoFits_115 : decode YX9_whoFits.2.1 115 = .ok (.aload_n 0, 1) := by decide +kernel
theorem dX9_whoFits_116 : decode YX9_whoFits.2.1 116 = .ok (.getfield 24, 3) := by decide +kernel
theorem dX9_whoFits_119 : decode YX9_whoFits.2.1 119 = .ok (.iload 4, 2) := by decide +kernel
theorem dX9_whoFits_121 : decode YX9_whoFits.2.1 121 = .ok (.iconst 1, 1) := by decide +kernel
theorem dX9_whoFits_122 : decode YX9_whoFits.2.1 122 = .ok (.isub, 1) := by decide +kernel
theorem dX9_whoFits_123 : decode YX9_whoFits.2.1 123 = .ok (.iaload, 1) := by decide +kernel
theorem dX9_whoFits_124 : decode YX9_whoFits.2.1 124 = .ok (.aload_n 0, 1) := by decide +kernel
theorem dX9_whoFits_125 : decode YX9_whoFits.2.1 125 = .ok (.getfield 24, 3) := by decide +kernel
theorem dX9_whoFits_128 : decode YX9_whoFits.2.1 128 = .ok (.iload 4, 2) := by decide +kernel
theorem dX9_whoFits_130 : decode YX9_whoFits.2.1 130 = .ok (.iaload, 1) := by decide +kernel
theorem dX9_whoFits_131 : decode YX9_whoFits.2.1 131 = .ok (.iand, 1) := by decide +kernel
theorem dX9_whoFits_132 : decode YX9_whoFits.2.1 132 = .ok (.goto 20, 3) := by decide +kernel
theorem dX9_whoFits_135 : decode YX9_whoFits.2.1 135 = .ok (.aload_n 0, 1) := by decide +kernel
theorem dX9_whoFits_136 : decode YX9_whoFits.2.1 136 = .ok (.getfield 24, 3) := by decide +kernel
theorem dX9_whoFits_139 : decode YX9_whoFits.2.1 139 = .ok (.iload 4, 2) := by decide +kernel
theorem dX9_whoFits_141 : decode YX9_whoFits.2.1 141 = .ok (.iconst 1, 1) := by decide +kernel
theorem dX9_whoFits_142 : decode YX9_whoFits.2.1 142 = .ok (.isub, 1) := by decide +kernel
theorem dX9_whoFits_143 : decode YX9_whoFits.2.1 143 = .ok (.iaload, 1) := by decide +kernel
theorem dX9_whoFits_144 : decode YX9_whoFits.2.1 144 = .ok (.aload_n 0, 1) := by decide +kernel
theorem dX9_whoFits_145 : decode YX9_whoFits.2.1 145 = .ok (.getfield 24, 3) := by decide +kernel
theorem dX9_whoFits_148 : decode YX9_whoFits.2.1 148 = .ok (.iload 4, 2) := by decide +kernel
theorem dX9_whoFits_150 : decode YX9_whoFits.2.1 150 = .ok (.iaload, 1) := by decide +kernel
theorem dX9_whoFits_151 : decode YX9_whoFits.2.1 151 = .ok (.ior, 1) := by decide +kernel
theorem dX9_whoFits_152 : decode YX9_whoFits.2.1 152 = .ok (.iastore, 1) := by decide +kernel
theorem dX9_whoFits_153 : decode YX9_whoFits.2.1 153 = .ok (.goto 28, 3) := by decide +kernel
theorem dX9_whoFits_156 : decode YX9_whoFits.2.1 156 = .ok (.iload 4, 2) := by decide +kernel
theorem dX9_whoFits_158 : decode YX9_whoFits.2.1 158 = .ok (.bipush 40, 2) := by decide +kernel
theorem dX9_whoFits_160 : decode YX9_whoFits.2.1 160 = .ok (.if_icmp .ge 21, 3) := by decide +kernel
theorem dX9_whoFits_163 : decode YX9_whoFits.2.1 163 = .ok (.aload_n 0, 1) := by decide +kernel
theorem dX9_whoFits_164 : decode YX9_whoFits.2.1 164 = .ok (.getfield 24, 3) := by decide +kernel
theorem dX9_whoFits_167 : decode YX9_whoFits.2.1 167 = .ok (.iload 4, 2) := by decide +kernel
theorem dX9_whoFits_169 : decode YX9_whoFits.2.1 169 = .ok (.aload_n 0, 1) := by decide +kernel
theorem dX9_whoFits_170 : decode YX9_whoFits.2.1 170 = .ok (.aload_n 1, 1) := by decide +kernel
theorem dX9_whoFits_171 : decode YX9_whoFits.2.1 171 = .ok (.aload_n 2, 1) := by decide +kernel
theorem dX9_whoFits_172 : decode YX9_whoFits.2.1 172 = .ok (.iload 5, 2) := by decide +kernel
theorem dX9_whoFits_174 : decode YX9_whoFits.2.1 174 = .ok (.invokevirtual 130, 3) := by decide +kernel
theorem dX9_whoFits_177 : decode YX9_whoFits.2.1 177 = .ok (.iastore, 1) := by decide +kernel
theorem dX9_whoFits_178 : decode YX9_whoFits.2.1 178 = .ok (.iinc 4 1, 3) := by decide +kernel
theorem dX9_whoFits_181 : decode YX9_whoFits.2.1 181 = .ok (.iinc 5 1, 3) := by decide +kernel
theorem dX9_whoFits_184 : decode YX9_whoFits.2.1 184 = .ok (.goto (-169), 3) := by decide +kernel
theorem dX9_whoFits_187 : decode YX9_whoFits.2.1 187 = .ok (.iload 4, 2) := by decide +kernel
theorem dX9_whoFits_189 : decode YX9_whoFits.2.1 189 = .ok (.ifCond .le 12, 3) := by decide +kernel
theorem dX9_whoFits_192 : decode YX9_whoFits.2.1 192 = .ok (.aload_n 0, 1) := by decide +kernel
theorem dX9_whoFits_193 : decode YX9_whoFits.2.1 193 = .ok (.getfield 24, 3) := by decide +kernel
theorem dX9_whoFits_196 : decode YX9_whoFits.2.1 196 = .ok (.iconst 0, 1) := by decide +kernel
theorem dX9_whoFits_197 : decode YX9_whoFits.2.1 197 = .ok (.iaload, 1) := by decide +kernel
theorem dX9_whoFits_198 : decode YX9_whoFits.2.1 198 = .ok (.goto 4, 3) := by decide +kernel
theorem dX9_whoFits_201 : decode YX9_whoFits.2.1 201 = .ok (.iconst 0, 1) := by decide +kernel
theorem dX9_whoFits_202 : decode YX9_whoFits.2.1 202 = .ok (.ireturn, 1) := by decide +kernel
theorem dX9_whoFitsPlain_0 : decode YX9_whoFitsPlain.2.1 0 = .ok (.iconst 0, 1) := by decide +kernel
theorem dX9_whoFitsPlain_1 : decode YX9_whoFitsPlain.2.1 1 = .ok (.istore 4, 2) := by decide +kernel
theorem dX9_whoFitsPlain_3 : decode YX9_whoFitsPlain.2.1 3 = .ok (.iconst 0, 1) := by decide +kernel
theorem dX9_whoFitsPlain_4 : decode YX9_whoFitsPlain.2.1 4 = .ok (.istore 5, 2) := by decide +kernel
theorem dX9_whoFitsPlain_6 : decode YX9_whoFitsPlain.2.1 6 = .ok (.iload 5, 2) := by decide +kernel
theorem dX9_whoFitsPlain_8 : decode YX9_whoFitsPlain.2.1 8 = .ok (.aload_n 1, 1) := by decide +kernel
theorem dX9_whoFitsPlain_9 : decode YX9_whoFitsPlain.2.1 9 = .ok (.invokevirtual 125, 3) := by decide +kernel
theorem dX9_whoFitsPlain_12 : decode YX9_whoFitsPlain.2.1 12 = .ok (.if_icmp .ge 29, 3) := by decide +kernel
theorem dX9_whoFitsPlain_15 : decode YX9_whoFitsPlain.2.1 15 = .ok (.aload_n 0, 1) := by decide +kernel
theorem dX9_whoFitsPlain_16 : decode YX9_whoFitsPlain.2.1 16 = .ok (.aload_n 2, 1) := by decide +kernel
theorem dX9_whoFitsPlain_17 : decode YX9_whoFitsPlain.2.1 17 = .ok (.iload_n 3, 1) := by decide +kernel
theorem dX9_whoFitsPlain_18 : decode YX9_whoFitsPlain.2.1 18 = .ok (.iload 5, 2) := by decide +kernel
theorem dX9_whoFitsPlain_20 : decode YX9_whoFitsPlain.2.1 20 = .ok (.invokevirtual 134, 3) := by decide +kernel
theorem dX9_whoFitsPlain_23 : decode YX9_whoFitsPlain.2.1 23 = .ok (.ifCond .eq 12, 3) := by decide +kernel
theorem dX9_whoFitsPlain_26 : decode YX9_whoFitsPlain.2.1 26 = .ok (.iload 4, 2) := by decide +kernel
theorem dX9_whoFitsPlain_28 : decode YX9_whoFitsPlain.2.1 28 = .ok (.iconst 1, 1) := by decide +kernel
theorem dX9_whoFitsPlain_29 : decode YX9_whoFitsPlain.2.1 29 = .ok (.iload 5, 2) := by decide +kernel
theorem dX9_whoFitsPlain_31 : decode YX9_whoFitsPlain.2.1 31 = .ok (.ishl, 1) := by decide +kernel
theorem dX9_whoFitsPlain_32 : decode YX9_whoFitsPlain.2.1 32 = .ok (.ior, 1) := by decide +kernel
theorem dX9_whoFitsPlain_33 : decode YX9_whoFitsPlain.2.1 33 = .ok (.istore 4, 2) := by decide +kernel
theorem dX9_whoFitsPlain_35 : decode YX9_whoFitsPlain.2.1 35 = .ok (.iinc 5 1, 3) := by decide +kernel
theorem dX9_whoFitsPlain_38 : decode YX9_whoFitsPlain.2.1 38 = .ok (.goto (-32), 3) := by decide +kernel
theorem dX9_whoFitsPlain_41 : decode YX9_whoFitsPlain.2.1 41 = .ok (.iload 4, 2) := by decide +kernel
theorem dX9_whoFitsPlain_43 : decode YX9_whoFitsPlain.2.1 43 = .ok (.ireturn, 1) := by decide +kernel
