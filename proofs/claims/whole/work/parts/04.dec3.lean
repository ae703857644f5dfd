theorem dL_addVariable_0 : decode cL_addVariable 0 = .ok (.aload_n 2, 1) := by decide +kernel
theorem dL_addVariable_1 : decode cL_addVariable 1 = .ok (.iconst 0, 1) := by decide +kernel
theorem dL_addVariable_2 : decode cL_addVariable 2 = .ok (.aload_n 0, 1) := by decide +kernel
theorem dL_addVariable_3 : decode cL_addVariable 3 = .ok (.iload_n 1, 1) := by decide +kernel
theorem dL_addVariable_4 : decode cL_addVariable 4 = .ok (.invokevirtual 7, 3) := by decide +kernel
theorem dL_addVariable_7 : decode cL_addVariable 7 = .ok (.i2l, 1) := by decide +kernel
theorem dL_addVariable_8 : decode cL_addVariable 8 = .ok (.lastore, 1) := by decide +kernel
theorem dL_addVariable_9 : decode cL_addVariable 9 = .ok (.goto 9, 3) := by decide +kernel
theorem dL_addVariable_12 : decode cL_addVariable 12 = .ok (.astore_n 3, 1) := by decide +kernel
theorem dL_addVariable_13 : decode cL_addVariable 13 = .ok (.iconst 1, 1) := by decide +kernel
theorem dL_addVariable_14 : decode cL_addVariable 14 = .ok (.ireturn, 1) := by decide +kernel
theorem dL_addVariable_15 : decode cL_addVariable 15 = .ok (.astore_n 3, 1) := by decide +kernel
theorem dL_addVariable_16 : decode cL_addVariable 16 = .ok (.iconst 2, 1) := by decide +kernel
theorem dL_addVariable_17 : decode cL_addVariable 17 = .ok (.ireturn, 1) := by decide +kernel
theorem dL_addVariable_18 : decode cL_addVariable 18 = .ok (.iconst 0, 1) := by decide +kernel
theorem dL_addVariable_19 : decode cL_addVariable 19 = .ok (.ireturn, 1) := by decide +kernel
theorem dL_setDomain_0 : decode cL_setDomain 0 = .ok (.aload_n 3, 1) := by decide +kernel
theorem dL_setDomain_1 : decode cL_setDomain 1 = .ok (.iconst 0, 1) := by decide +kernel
theorem dL_setDomain_2 : decode cL_setDomain 2 = .ok (.aload_n 0, 1) := by decide +kernel
theorem dL_setDomain_3 : decode cL_setDomain 3 = .ok (.iload_n 1, 1) := by decide +kernel
theorem dL_setDomain_4 : decode cL_setDomain 4 = .ok (.iload_n 2, 1) := by decide +kernel
theorem dL_setDomain_5 : decode cL_setDomain 5 = .ok (.invokevirtual 17, 3) := by decide +kernel
theorem dL_setDomain_8 : decode cL_setDomain 8 = .ok (.i2l, 1) := by decide +kernel
theorem dL_setDomain_9 : decode cL_setDomain 9 = .ok (.lastore, 1) := by decide +kernel
theorem dL_setDomain_10 : decode cL_setDomain 10 = .ok (.goto 11, 3) := by decide +kernel
theorem dL_setDomain_13 : decode cL_setDomain 13 = .ok (.astore 4, 2) := by decide +kernel
theorem dL_setDomain_15 : decode cL_setDomain 15 = .ok (.iconst 1, 1) := by decide +kernel
theorem dL_setDomain_16 : decode cL_setDomain 16 = .ok (.ireturn, 1) := by decide +kernel
theorem dL_setDomain_17 : decode cL_setDomain 17 = .ok (.astore 4, 2) := by decide +kernel
theorem dL_setDomain_19 : decode cL_setDomain 19 = .ok (.iconst 2, 1) := by decide +kernel
theorem dL_setDomain_20 : decode cL_setDomain 20 = .ok (.ireturn, 1) := by decide +kernel
theorem dL_setDomain_21 : decode cL_setDomain 21 = .ok (.iconst 0, 1) := by decide +kernel
theorem dL_setDomain_22 : decode cL_setDomain 22 = .ok (.ireturn, 1) := by decide +kernel
theorem dL_addConstraint_0 : decode cL_addConstraint 0 = .ok (.aload 5, 2) := by decide +kernel
theorem dL_addConstraint_2 : decode cL_addConstraint 2 = .ok (.iconst 0, 1) := by decide +kernel
theorem dL_addConstraint_3 : decode cL_addConstraint 3 = .ok (.aload_n 0, 1) := by decide +kernel
theorem dL_addConstraint_4 : decode cL_addConstraint 4 = .ok (.iload_n 1, 1) := by decide +kernel
theorem dL_addConstraint_5 : decode cL_addConstraint 5 = .ok (.iload_n 2, 1) := by decide +kernel
theorem dL_addConstraint_6 : decode cL_addConstraint 6 = .ok (.iload_n 3, 1) := by decide +kernel
theorem dL_addConstraint_7 : decode cL_addConstraint 7 = .ok (.iload 4, 2) := by decide +kernel
theorem dL_addConstraint_9 : decode cL_addConstraint 9 = .ok (.invokevirtual 23, 3) := by decide +kernel
theorem dL_addConstraint_12 : decode cL_addConstraint 12 = .ok (.i2l, 1) := by decide +kernel
theorem dL_addConstraint_13 : decode cL_addConstraint 13 = .ok (.lastore, 1) := by decide +kernel
theorem dL_addConstraint_14 : decode cL_addConstraint 14 = .ok (.goto 11, 3) := by decide +kernel
theorem dL_addConstraint_17 : decode cL_addConstraint 17 = .ok (.astore 6, 2) := by decide +kernel
theorem dL_addConstraint_19 : decode cL_addConstraint 19 = .ok (.iconst 1, 1) := by decide +kernel
theorem dL_addConstraint_20 : decode cL_addConstraint 20 = .ok (.ireturn, 1) := by decide +kernel
theorem dL_addConstraint_21 : decode cL_addConstraint 21 = .ok (.astore 6, 2) := by decide +kernel
theorem dL_addConstraint_23 : decode cL_addConstraint 23 = .ok (.iconst 2, 1) := by decide +kernel
theorem dL_addConstraint_24 : decode cL_addConstraint 24 = .ok (.ireturn, 1) := by decide +kernel
theorem dL_addConstraint_25 : decode cL_addConstraint 25 = .ok (.iconst 0, 1) := by decide +kernel
theorem dL_addConstraint_26 : decode cL_addConstraint 26 = .ok (.ireturn, 1) := by decide +kernel
theorem dL_removeConstraint_0 : decode cL_removeConstraint 0 = .ok (.aload_n 2, 1) := by decide +kernel
theorem dL_removeConstraint_1 : decode cL_removeConstraint 1 = .ok (.iconst 0, 1) := by decide +kernel
theorem dL_removeConstraint_2 : decode cL_removeConstraint 2 = .ok (.aload_n 0, 1) := by decide +kernel
theorem dL_removeConstraint_3 : decode cL_removeConstraint 3 = .ok (.iload_n 1, 1) := by decide +kernel
theorem dL_removeConstraint_4 : decode cL_removeConstraint 4 = .ok (.invokevirtual 27, 3) := by decide +kernel
theorem dL_removeConstraint_7 : decode cL_removeConstraint 7 = .ok (.i2l, 1) := by decide +kernel
theorem dL_removeConstraint_8 : decode cL_removeConstraint 8 = .ok (.lastore, 1) := by decide +kernel
theorem dL_removeConstraint_9 : decode cL_removeConstraint 9 = .ok (.goto 6, 3) := by decide +kernel
theorem dL_removeConstraint_12 : decode cL_removeConstraint 12 = .ok (.astore_n 3, 1) := by decide +kernel
theorem dL_removeConstraint_13 : decode cL_removeConstraint 13 = .ok (.iconst 1, 1) := by decide +kernel
theorem dL_removeConstraint_14 : decode cL_removeConstraint 14 = .ok (.ireturn, 1) := by decide +kernel
theorem dL_removeConstraint_15 : decode cL_removeConstraint 15 = .ok (.iconst 0, 1) := by decide +kernel
theorem dL_removeConstraint_16 : decode cL_removeConstraint 16 = .ok (.ireturn, 1) := by decide +kernel
theorem dL_setWeight_0 : decode cL_setWeight 0 = .ok (.aload_n 3, 1) := by decide +kernel
theorem dL_setWeight_1 : decode cL_setWeight 1 = .ok (.iconst 0, 1) := by decide +kernel
theorem dL_setWeight_2 : decode cL_setWeight 2 = .ok (.aload_n 0, 1) := by decide +kernel
theorem dL_setWeight_3 : decode cL_setWeight 3 = .ok (.iload_n 1, 1) := by decide +kernel
theorem dL_setWeight_4 : decode cL_setWeight 4 = .ok (.iload_n 2, 1) := by decide +kernel
theorem dL_setWeight_5 : decode cL_setWeight 5 = .ok (.invokevirtual 30, 3) := by decide +kernel
theorem dL_setWeight_8 : decode cL_setWeight 8 = .ok (.i2l, 1) := by decide +kernel
theorem dL_setWeight_9 : decode cL_setWeight 9 = .ok (.lastore, 1) := by decide +kernel
theorem dL_setWeight_10 : decode cL_setWeight 10 = .ok (.goto 11, 3) := by decide +kernel
theorem dL_setWeight_13 : decode cL_setWeight 13 = .ok (.astore 4, 2) := by decide +kernel
theorem dL_setWeight_15 : decode cL_setWeight 15 = .ok (.iconst 1, 1) := by decide +kernel
theorem dL_setWeight_16 : decode cL_setWeight 16 = .ok (.ireturn, 1) := by decide +kernel
theorem dL_setWeight_17 : decode cL_setWeight 17 = .ok (.astore 4, 2) := by decide +kernel
theorem dL_setWeight_19 : decode cL_setWeight 19 = .ok (.iconst 2, 1) := by decide +kernel
theorem dL_setWeight_20 : decode cL_setWeight 20 = .ok (.ireturn, 1) := by decide +kernel
theorem dL_setWeight_21 : decode cL_setWeight 21 = .ok (.iconst 0, 1) := by decide +kernel
theorem dL_setWeight_22 : decode cL_setWeight 22 = .ok (.ireturn, 1) := by decide +kernel
theorem dL_setValue_0 : decode cL_setValue 0 = .ok (.aload_n 3, 1) := by decide +kernel
theorem dL_setValue_1 : decode cL_setValue 1 = .ok (.iconst 0, 1) := by decide +kernel
theorem dL_setValue_2 : decode cL_setValue 2 = .ok (.aload_n 0, 1) := by decide +kernel
theorem dL_setValue_3 : decode cL_setValue 3 = .ok (.iload_n 1, 1) := by decide +kernel
theorem dL_setValue_4 : decode cL_setValue 4 = .ok (.iload_n 2, 1) := by decide +kernel
theorem dL_setValue_5 : decode cL_setValue 5 = .ok (.invokevirtual 33, 3) := by decide +kernel
theorem dL_setValue_8 : decode cL_setValue 8 = .ok (.i2l, 1) := by decide +kernel
theorem dL_setValue_9 : decode cL_setValue 9 = .ok (.lastore, 1) := by decide +kernel
theorem dL_setValue_10 : decode cL_setValue 10 = .ok (.goto 11, 3) := by decide +kernel
theorem dL_setValue_13 : decode cL_setValue 13 = .ok (.astore 4, 2) := by decide +kernel
theorem dL_setValue_15 : decode cL_setValue 15 = .ok (.iconst 1, 1) := by decide +kernel
theorem dL_setValue_16 : decode cL_setValue 16 = .ok (.ireturn, 1) := by decide +kernel
theorem dL_setValue_17 : decode cL_setValue 17 = .ok (.astore 4, 2) := by decide +kernel
theorem dL_setValue_19 : decode cL_setValue 19 = .ok (.iconst 2, 1) := by decide +kernel
theorem dL_setValue_20 : decode cL_setValue 20 = .ok (.ireturn, 1) := by decide +kernel
theorem dL_setValue_21 : decode cL_setValue 21 = .ok (.iconst 0, 1) := by decide +kernel
theorem dL_setValue_22 : decode cL_setValue 22 = .ok (.ireturn, 1) := by decide +kernel
theorem dL_count_0 : decode cL_count 0 = .ok (.aload_n 2, 1) := by decide +kernel
theorem dL_count_1 : decode cL_count 1 = .ok (.iconst 0, 1) := by decide +kernel
theorem dL_count_2 : decode cL_count 2 = .ok (.aload_n 0, 1) := by decide +kernel
theorem dL_count_3 : decode cL_count 3 = .ok (.iload_n 1, 1) := by decide +kernel
theorem dL_count_4 : decode cL_count 4 = .ok (.invokevirtual 36, 3) := by decide +kernel
theorem dL_count_7 : decode cL_count 7 = .ok (.i2l, 1) := by decide +kernel
theorem dL_count_8 : decode cL_count 8 = .ok (.lastore, 1) := by decide +kernel
theorem dL_count_9 : decode cL_count 9 = .ok (.goto 6, 3) := by decide +kernel
theorem dL_count_12 : decode cL_count 12 = .ok (.astore_n 3, 1) := by decide +kernel
theorem dL_count_13 : decode cL_count 13 = .ok (.iconst 1, 1) := by decide +kernel
theorem dL_count_14 : decode cL_count 14 = .ok (.ireturn, 1) := by decide +kernel
theorem dL_count_15 : decode cL_count 15 = .ok (.iconst 0, 1) := by decide +kernel
theorem dL_count_16 : decode cL_count 16 = .ok (.ireturn, 1) := by decide +kernel
theorem dL_constraint_0 : decode cL_constraint 0 = .ok (.aload_n 3, 1) := by decide +kernel
theorem dL_constraint_1 : decode cL_constraint 1 = .ok (.iconst 0, 1) := by decide +kernel
theorem dL_constraint_2 : decode cL_constraint 2 = .ok (.aload_n 0, 1) := by decide +kernel
theorem dL_constraint_3 : decode cL_constraint 3 = .ok (.iload_n 1, 1) := by decide +kernel
theorem dL_constraint_4 : decode cL_constraint 4 = .ok (.iload_n 2, 1) := by decide +kernel
theorem dL_constraint_5 : decode cL_constraint 5 = .ok (.invokevirtual 39, 3) := by decide +kernel
theorem dL_constraint_8 : decode cL_constraint 8 = .ok (.i2l, 1) := by decide +kernel
theorem dL_constraint_9 : decode cL_constraint 9 = .ok (.lastore, 1) := by decide +kernel
theorem dL_constraint_10 : decode cL_constraint 10 = .ok (.goto 11, 3) := by decide +kernel
theorem dL_constraint_13 : decode cL_constraint 13 = .ok (.astore 4, 2) := by decide +kernel
theorem dL_constraint_15 : decode cL_constraint 15 = .ok (.iconst 1, 1) := by decide +kernel
theorem dL_constraint_16 : decode cL_constraint 16 = .ok (.ireturn, 1) := by decide +kernel
theorem dL_constraint_17 : decode cL_constraint 17 = .ok (.astore 4, 2) := by decide +kernel
theorem dL_constraint_19 : decode cL_constraint 19 = .ok (.iconst 2, 1) := by decide +kernel
theorem dL_constraint_20 : decode cL_constraint 20 = .ok (.ireturn, 1) := by decide +kernel
theorem dL_constraint_21 : decode cL_constraint 21 = .ok (.iconst 0, 1) := by decide +kernel
theorem dL_constraint_22 : decode cL_constraint 22 = .ok (.ireturn, 1) := by decide +kernel
theorem dL_variable_0 : decode cL_variable 0 = .ok (.aload_n 3, 1) := by decide +kernel
theorem dL_variable_1 : decode cL_variable 1 = .ok (.iconst 0, 1) := by decide +kernel
theorem dL_variable_2 : decode cL_variable 2 = .ok (.aload_n 0, 1) := by decide +kernel
theorem dL_variable_3 : decode cL_variable 3 = .ok (.iload_n 1, 1) := by decide +kernel
theorem dL_variable_4 : decode cL_variable 4 = .ok (.iload_n 2, 1) := by decide +kernel
theorem dL_variable_5 : decode cL_variable 5 = .ok (.invokevirtual 42, 3) := by decide +kernel
theorem dL_variable_8 : decode cL_variable 8 = .ok (.i2l, 1) := by decide +kernel
theorem dL_variable_9 : decode cL_variable 9 = .ok (.lastore, 1) := by decide +kernel
theorem dL_variable_10 : decode cL_variable 10 = .ok (.goto 11, 3) := by decide +kernel
theorem dL_variable_13 : decode cL_variable 13 = .ok (.astore 4, 2) := by decide +kernel
theorem dL_variable_15 : decode cL_variable 15 = .ok (.iconst 1, 1) := by decide +kernel
theorem dL_variable_16 : decode cL_variable 16 = .ok (.ireturn, 1) := by decide +kernel
theorem dL_variable_17 : decode cL_variable 17 = .ok (.astore 4, 2) := by decide +kernel
theorem dL_variable_19 : decode cL_variable 19 = .ok (.iconst 2, 1) := by decide +kernel
theorem dL_variable_20 : decode cL_variable 20 = .ok (.ireturn, 1) := by decide +kernel
theorem dL_variable_21 : decode cL_variable 21 = .ok (.iconst 0, 1) := by decide +kernel
theorem dL_variable_22 : decode cL_variable 22 = .ok (.ireturn, 1) := by decide +kernel
theorem dL_violation_0 : decode cL_violation 0 = .ok (.aload_n 3, 1) := by decide +kernel
theorem dL_violation_1 : decode cL_violation 1 = .ok (.iconst 0, 1) := by decide +kernel
theorem dL_violation_2 : decode cL_violation 2 = .ok (.aload_n 0, 1) := by decide +kernel
theorem dL_violation_3 : decode cL_violation 3 = .ok (.iload_n 1, 1) := by decide +kernel
theorem dL_violation_4 : decode cL_violation 4 = .ok (.iload_n 2, 1) := by decide +kernel
theorem dL_violation_5 : decode cL_violation 5 = .ok (.invokevirtual 45, 3) := by decide +kernel
theorem dL_violation_8 : decode cL_violation 8 = .ok (.i2l, 1) := by decide +kernel
theorem dL_violation_9 : decode cL_violation 9 = .ok (.lastore, 1) := by decide +kernel
theorem dL_violation_10 : decode cL_violation 10 = .ok (.goto 7, 3) := by decide +kernel
theorem dL_violation_13 : decode cL_violation 13 = .ok (.astore 4, 2) := by decide +kernel
theorem dL_violation_15 : decode cL_violation 15 = .ok (.iconst 1, 1) := by decide +kernel
theorem dL_violation_16 : decode cL_violation 16 = .ok (.ireturn, 1) := by decide +kernel
theorem dL_violation_17 : decode cL_violation 17 = .ok (.iconst 0, 1) := by decide +kernel
theorem dL_violation_18 : decode cL_violation 18 = .ok (.ireturn, 1) := by decide +kernel
theorem dL_mostBlamed_0 : decode cL_mostBlamed 0 = .ok (.aload_n 1, 1) := by decide +kernel
theorem dL_mostBlamed_1 : decode cL_mostBlamed 1 = .ok (.iconst 0, 1) := by decide +kernel
theorem dL_mostBlamed_2 : decode cL_mostBlamed 2 = .ok (.aload_n 0, 1) := by decide +kernel
theorem dL_mostBlamed_3 : decode cL_mostBlamed 3 = .ok (.invokevirtual 49, 3) := by decide +kernel
theorem dL_mostBlamed_6 : decode cL_mostBlamed 6 = .ok (.i2l, 1) := by decide +kernel
theorem dL_mostBlamed_7 : decode cL_mostBlamed 7 = .ok (.lastore, 1) := by decide +kernel
theorem dL_mostBlamed_8 : decode cL_mostBlamed 8 = .ok (.goto 6, 3) := by decide +kernel
theorem dL_mostBlamed_11 : decode cL_mostBlamed 11 = .ok (.astore_n 2, 1) := by decide +kernel
theorem dL_mostBlamed_12 : decode cL_mostBlamed 12 = .ok (.iconst 1, 1) := by decide +kernel
theorem dL_mostBlamed_13 : decode cL_mostBlamed 13 = .ok (.ireturn, 1) := by decide +kernel
theorem dL_mostBlamed_14 : decode cL_mostBlamed 14 = .ok (.iconst 0, 1) := by decide +kernel
theorem dL_mostBlamed_15 : decode cL_mostBlamed 15 = .ok (.ireturn, 1) := by decide +kernel
theorem dL_relief_0 : decode cL_relief 0 = .ok (.aload_n 2, 1) := by decide +kernel
theorem dL_relief_1 : decode cL_relief 1 = .ok (.iconst 0, 1) := by decide +kernel
theorem dL_relief_2 : decode cL_relief 2 = .ok (.aload_n 0, 1) := by decide +kernel
theorem dL_relief_3 : decode cL_relief 3 = .ok (.iload_n 1, 1) := by decide +kernel
theorem dL_relief_4 : decode cL_relief 4 = .ok (.invokevirtual 55, 3) := by decide +kernel
theorem dL_relief_7 : decode cL_relief 7 = .ok (.i2l, 1) := by decide +kernel
theorem dL_relief_8 : decode cL_relief 8 = .ok (.lastore, 1) := by decide +kernel
theorem dL_relief_9 : decode cL_relief 9 = .ok (.goto 6, 3) := by decide +kernel
theorem dL_relief_12 : decode cL_relief 12 = .ok (.astore_n 3, 1) := by decide +kernel
theorem dL_relief_13 : decode cL_relief 13 = .ok (.iconst 1, 1) := by decide +kernel
theorem dL_relief_14 : decode cL_relief 14 = .ok (.ireturn, 1) := by decide +kernel
theorem dL_relief_15 : decode cL_relief 15 = .ok (.iconst 0, 1) := by decide +kernel
theorem dL_relief_16 : decode cL_relief 16 = .ok (.ireturn, 1) := by decide +kernel
theorem dL_setNeighborhood_0 : decode cL_setNeighborhood 0 = .ok (.aload_n 2, 1) := by decide +kernel
theorem dL_setNeighborhood_1 : decode cL_setNeighborhood 1 = .ok (.iconst 0, 1) := by decide +kernel
theorem dL_setNeighborhood_2 : decode cL_setNeighborhood 2 = .ok (.aload_n 0, 1) := by decide +kernel
theorem dL_setNeighborhood_3 : decode cL_setNeighborhood 3 = .ok (.iload_n 1, 1) := by decide +kernel
theorem dL_setNeighborhood_4 : decode cL_setNeighborhood 4 = .ok (.invokevirtual 58, 3) := by decide +kernel
theorem dL_setNeighborhood_7 : decode cL_setNeighborhood 7 = .ok (.i2l, 1) := by decide +kernel
theorem dL_setNeighborhood_8 : decode cL_setNeighborhood 8 = .ok (.lastore, 1) := by decide +kernel
theorem dL_setNeighborhood_9 : decode cL_setNeighborhood 9 = .ok (.goto 6, 3) := by decide +kernel
theorem dL_setNeighborhood_12 : decode cL_setNeighborhood 12 = .ok (.astore_n 3, 1) := by decide +kernel
theorem dL_setNeighborhood_13 : decode cL_setNeighborhood 13 = .ok (.iconst 1, 1) := by decide +kernel
theorem dL_setNeighborhood_14 : decode cL_setNeighborhood 14 = .ok (.ireturn, 1) := by decide +kernel
theorem dL_setNeighborhood_15 : decode cL_setNeighborhood 15 = .ok (.iconst 0, 1) := by decide +kernel
theorem dL_setNeighborhood_16 : decode cL_setNeighborhood 16 = .ok (.ireturn, 1) := by decide +kernel
theorem dL_setTenure_0 : decode cL_setTenure 0 = .ok (.aload_n 2, 1) := by decide +kernel
theorem dL_setTenure_1 : decode cL_setTenure 1 = .ok (.iconst 0, 1) := by decide +kernel
theorem dL_setTenure_2 : decode cL_setTenure 2 = .ok (.aload_n 0, 1) := by decide +kernel
theorem dL_setTenure_3 : decode cL_setTenure 3 = .ok (.iload_n 1, 1) := by decide +kernel
theorem dL_setTenure_4 : decode cL_setTenure 4 = .ok (.invokevirtual 61, 3) := by decide +kernel
theorem dL_setTenure_7 : decode cL_setTenure 7 = .ok (.i2l, 1) := by decide +kernel
theorem dL_setTenure_8 : decode cL_setTenure 8 = .ok (.lastore, 1) := by decide +kernel
theorem dL_setTenure_9 : decode cL_setTenure 9 = .ok (.goto 6, 3) := by decide +kernel
theorem dL_setTenure_12 : decode cL_setTenure 12 = .ok (.astore_n 3, 1) := by decide +kernel
theorem dL_setTenure_13 : decode cL_setTenure 13 = .ok (.iconst 1, 1) := by decide +kernel
theorem dL_setTenure_14 : decode cL_setTenure 14 = .ok (.ireturn, 1) := by decide +kernel
theorem dL_setTenure_15 : decode cL_setTenure 15 = .ok (.iconst 0, 1) := by decide +kernel
theorem dL_setTenure_16 : decode cL_setTenure 16 = .ok (.ireturn, 1) := by decide +kernel
theorem dL_setPatience_0 : decode cL_setPatience 0 = .ok (.aload_n 2, 1) := by decide +kernel
theorem dL_setPatience_1 : decode cL_setPatience 1 = .ok (.iconst 0, 1) := by decide +kernel
theorem dL_setPatience_2 : decode cL_setPatience 2 = .ok (.aload_n 0, 1) := by decide +kernel
theorem dL_setPatience_3 : decode cL_setPatience 3 = .ok (.iload_n 1, 1) := by decide +kernel
theorem dL_setPatience_4 : decode cL_setPatience 4 = .ok (.invokevirtual 64, 3) := by decide +kernel
theorem dL_setPatience_7 : decode cL_setPatience 7 = .ok (.i2l, 1) := by decide +kernel
theorem dL_setPatience_8 : decode cL_setPatience 8 = .ok (.lastore, 1) := by decide +kernel
theorem dL_setPatience_9 : decode cL_setPatience 9 = .ok (.goto 6, 3) := by decide +kernel
theorem dL_setPatience_12 : decode cL_setPatience 12 = .ok (.astore_n 3, 1) := by decide +kernel
theorem dL_setPatience_13 : decode cL_setPatience 13 = .ok (.iconst 1, 1) := by decide +kernel
theorem dL_setPatience_14 : decode cL_setPatience 14 = .ok (.ireturn, 1) := by decide +kernel
theorem dL_setPatience_15 : decode cL_setPatience 15 = .ok (.iconst 0, 1) := by decide +kernel
theorem dL_setPatience_16 : decode cL_setPatience 16 = .ok (.ireturn, 1) := by decide +kernel
theorem dL_setSeed_0 : decode cL_setSeed 0 = .ok (.aload_n 2, 1) := by decide +kernel
theorem dL_setSeed_1 : decode cL_setSeed 1 = .ok (.iconst 0, 1) := by decide +kernel
theorem dL_setSeed_2 : decode cL_setSeed 2 = .ok (.aload_n 0, 1) := by decide +kernel
theorem dL_setSeed_3 : decode cL_setSeed 3 = .ok (.iload_n 1, 1) := by decide +kernel
theorem dL_setSeed_4 : decode cL_setSeed 4 = .ok (.invokevirtual 67, 3) := by decide +kernel
theorem dL_setSeed_7 : decode cL_setSeed 7 = .ok (.i2l, 1) := by decide +kernel
theorem dL_setSeed_8 : decode cL_setSeed 8 = .ok (.lastore, 1) := by decide +kernel
theorem dL_setSeed_9 : decode cL_setSeed 9 = .ok (.goto 6, 3) := by decide +kernel
theorem dL_setSeed_12 : decode cL_setSeed 12 = .ok (.astore_n 3, 1) := by decide +kernel
theorem dL_setSeed_13 : decode cL_setSeed 13 = .ok (.iconst 1, 1) := by decide +kernel
theorem dL_setSeed_14 : decode cL_setSeed 14 = .ok (.ireturn, 1) := by decide +kernel
theorem dL_setSeed_15 : decode cL_setSeed 15 = .ok (.iconst 0, 1) := by decide +kernel
theorem dL_setSeed_16 : decode cL_setSeed 16 = .ok (.ireturn, 1) := by decide +kernel
theorem dL_move_0 : decode cL_move 0 = .ok (.aload_n 3, 1) := by decide +kernel
theorem dL_move_1 : decode cL_move 1 = .ok (.iconst 0, 1) := by decide +kernel
theorem dL_move_2 : decode cL_move 2 = .ok (.aload_n 0, 1) := by decide +kernel
theorem dL_move_3 : decode cL_move 3 = .ok (.iload_n 1, 1) := by decide +kernel
theorem dL_move_4 : decode cL_move 4 = .ok (.iload_n 2, 1) := by decide +kernel
theorem dL_move_5 : decode cL_move 5 = .ok (.invokevirtual 70, 3) := by decide +kernel
theorem dL_move_8 : decode cL_move 8 = .ok (.i2l, 1) := by decide +kernel
theorem dL_move_9 : decode cL_move 9 = .ok (.lastore, 1) := by decide +kernel
theorem dL_move_10 : decode cL_move 10 = .ok (.goto 11, 3) := by decide +kernel
theorem dL_move_13 : decode cL_move 13 = .ok (.astore 4, 2) := by decide +kernel
theorem dL_move_15 : decode cL_move 15 = .ok (.iconst 1, 1) := by decide +kernel
theorem dL_move_16 : decode cL_move 16 = .ok (.ireturn, 1) := by decide +kernel
theorem dL_move_17 : decode cL_move 17 = .ok (.astore 4, 2) := by decide +kernel
theorem dL_move_19 : decode cL_move 19 = .ok (.iconst 2, 1) := by decide +kernel
theorem dL_move_20 : decode cL_move 20 = .ok (.ireturn, 1) := by decide +kernel
theorem dL_move_21 : decode cL_move 21 = .ok (.iconst 0, 1) := by decide +kernel
theorem dL_move_22 : decode cL_move 22 = .ok (.ireturn, 1) := by decide +kernel
theorem dL_nextMove_0 : decode cL_nextMove 0 = .ok (.aload_n 1, 1) := by decide +kernel
theorem dL_nextMove_1 : decode cL_nextMove 1 = .ok (.iconst 0, 1) := by decide +kernel
theorem dL_nextMove_2 : decode cL_nextMove 2 = .ok (.aload_n 0, 1) := by decide +kernel
theorem dL_nextMove_3 : decode cL_nextMove 3 = .ok (.invokevirtual 73, 3) := by decide +kernel
theorem dL_nextMove_6 : decode cL_nextMove 6 = .ok (.i2l, 1) := by decide +kernel
theorem dL_nextMove_7 : decode cL_nextMove 7 = .ok (.lastore, 1) := by decide +kernel
theorem dL_nextMove_8 : decode cL_nextMove 8 = .ok (.goto 6, 3) := by decide +kernel
theorem dL_nextMove_11 : decode cL_nextMove 11 = .ok (.astore_n 2, 1) := by decide +kernel
theorem dL_nextMove_12 : decode cL_nextMove 12 = .ok (.iconst 1, 1) := by decide +kernel
theorem dL_nextMove_13 : decode cL_nextMove 13 = .ok (.ireturn, 1) := by decide +kernel
theorem dL_nextMove_14 : decode cL_nextMove 14 = .ok (.iconst 0, 1) := by decide +kernel
theorem dL_nextMove_15 : decode cL_nextMove 15 = .ok (.ireturn, 1) := by decide +kernel
theorem dL_isForbidden_0 : decode cL_isForbidden 0 = .ok (.aload_n 3, 1) := by decide +kernel
theorem dL_isForbidden_1 : decode cL_isForbidden 1 = .ok (.iconst 0, 1) := by decide +kernel
theorem dL_isForbidden_2 : decode cL_isForbidden 2 = .ok (.aload_n 0, 1) := by decide +kernel
theorem dL_isForbidden_3 : decode cL_isForbidden 3 = .ok (.iload_n 1, 1) := by decide +kernel
theorem dL_isForbidden_4 : decode cL_isForbidden 4 = .ok (.iload_n 2, 1) := by decide +kernel
theorem dL_isForbidden_5 : decode cL_isForbidden 5 = .ok (.invokevirtual 76, 3) := by decide +kernel
theorem dL_isForbidden_8 : decode cL_isForbidden 8 = .ok (.ifCond .eq 7, 3) := by decide +kernel
theorem dL_isForbidden_11 : decode cL_isForbidden 11 = .ok (.lconst 1, 1) := by decide +kernel
theorem dL_isForbidden_12 : decode cL_isForbidden 12 = .ok (.goto 4, 3) := by decide +kernel
theorem dL_isForbidden_15 : decode cL_isForbidden 15 = .ok (.lconst 0, 1) := by decide +kernel
theorem dL_isForbidden_16 : decode cL_isForbidden 16 = .ok (.lastore, 1) := by decide +kernel
theorem dL_isForbidden_17 : decode cL_isForbidden 17 = .ok (.goto 11, 3) := by decide +kernel
theorem dL_isForbidden_20 : decode cL_isForbidden 20 = .ok (.astore 4, 2) := by decide +kernel
theorem dL_isForbidden_22 : decode cL_isForbidden 22 = .ok (.iconst 1, 1) := by decide +kernel
theorem dL_isForbidden_23 : decode cL_isForbidden 23 = .ok (.ireturn, 1) := by decide +kernel
theorem dL_isForbidden_24 : decode cL_isForbidden 24 = .ok (.astore 4, 2) := by decide +kernel
theorem dL_isForbidden_26 : decode cL_isForbidden 26 = .ok (.iconst 2, 1) := by decide +kernel
theorem dL_isForbidden_27 : decode cL_isForbidden 27 = .ok (.ireturn, 1) := by decide +kernel
theorem dL_isForbidden_28 : decode cL_isForbidden 28 = .ok (.iconst 0, 1) := by decide +kernel
theorem dL_isForbidden_29 : decode cL_isForbidden 29 = .ok (.ireturn, 1) := by decide +kernel
theorem dL_step_0 : decode cL_step 0 = .ok (.aload_n 1, 1) := by decide +kernel
theorem dL_step_1 : decode cL_step 1 = .ok (.iconst 0, 1) := by decide +kernel
theorem dL_step_2 : decode cL_step 2 = .ok (.aload_n 0, 1) := by decide +kernel
theorem dL_step_3 : decode cL_step 3 = .ok (.invokevirtual 80, 3) := by decide +kernel
theorem dL_step_6 : decode cL_step 6 = .ok (.i2l, 1) := by decide +kernel
theorem dL_step_7 : decode cL_step 7 = .ok (.lastore, 1) := by decide +kernel
theorem dL_step_8 : decode cL_step 8 = .ok (.goto 6, 3) := by decide +kernel
theorem dL_step_11 : decode cL_step 11 = .ok (.astore_n 2, 1) := by decide +kernel
theorem dL_step_12 : decode cL_step 12 = .ok (.iconst 1, 1) := by decide +kernel
theorem dL_step_13 : decode cL_step 13 = .ok (.ireturn, 1) := by decide +kernel
theorem dL_step_14 : decode cL_step 14 = .ok (.iconst 0, 1) := by decide +kernel
theorem dL_step_15 : decode cL_step 15 = .ok (.ireturn, 1) := by decide +kernel
theorem dL_run_0 : decode cL_run 0 = .ok (.aload_n 2, 1) := by decide +kernel
theorem dL_run_1 : decode cL_run 1 = .ok (.iconst 0, 1) := by decide +kernel
theorem dL_run_2 : decode cL_run 2 = .ok (.aload_n 0, 1) := by decide +kernel
theorem dL_run_3 : decode cL_run 3 = .ok (.iload_n 1, 1) := by decide +kernel
theorem dL_run_4 : decode cL_run 4 = .ok (.invokevirtual 83, 3) := by decide +kernel
theorem dL_run_7 : decode cL_run 7 = .ok (.i2l, 1) := by decide +kernel
theorem dL_run_8 : decode cL_run 8 = .ok (.lastore, 1) := by decide +kernel
theorem dL_run_9 : decode cL_run 9 = .ok (.goto 6, 3) := by decide +kernel
theorem dL_run_12 : decode cL_run 12 = .ok (.astore_n 3, 1) := by decide +kernel
theorem dL_run_13 : decode cL_run 13 = .ok (.iconst 1, 1) := by decide +kernel
theorem dL_run_14 : decode cL_run 14 = .ok (.ireturn, 1) := by decide +kernel
theorem dL_run_15 : decode cL_run 15 = .ok (.iconst 0, 1) := by decide +kernel
theorem dL_run_16 : decode cL_run 16 = .ok (.ireturn, 1) := by decide +kernel
theorem dL_search_0 : decode cL_search 0 = .ok (.aload_n 2, 1) := by decide +kernel
theorem dL_search_1 : decode cL_search 1 = .ok (.iconst 0, 1) := by decide +kernel
theorem dL_search_2 : decode cL_search 2 = .ok (.aload_n 0, 1) := by decide +kernel
theorem dL_search_3 : decode cL_search 3 = .ok (.iload_n 1, 1) := by decide +kernel
theorem dL_search_4 : decode cL_search 4 = .ok (.invokevirtual 86, 3) := by decide +kernel
theorem dL_search_7 : decode cL_search 7 = .ok (.i2l, 1) := by decide +kernel
theorem dL_search_8 : decode cL_search 8 = .ok (.lastore, 1) := by decide +kernel
theorem dL_search_9 : decode cL_search 9 = .ok (.goto 6, 3) := by decide +kernel
theorem dL_search_12 : decode cL_search 12 = .ok (.astore_n 3, 1) := by decide +kernel
theorem dL_search_13 : decode cL_search 13 = .ok (.iconst 1, 1) := by decide +kernel
theorem dL_search_14 : decode cL_search 14 = .ok (.ireturn, 1) := by decide +kernel
theorem dL_search_15 : decode cL_search 15 = .ok (.iconst 0, 1) := by decide +kernel
theorem dL_search_16 : decode cL_search 16 = .ok (.ireturn, 1) := by decide +kernel
theorem dL_log_0 : decode cL_log 0 = .ok (.aload_n 3, 1) := by decide +kernel
theorem dL_log_1 : decode cL_log 1 = .ok (.iconst 0, 1) := by decide +kernel
theorem dL_log_2 : decode cL_log 2 = .ok (.aload_n 0, 1) := by decide +kernel
theorem dL_log_3 : decode cL_log 3 = .ok (.iload_n 1, 1) := by decide +kernel
theorem dL_log_4 : decode cL_log 4 = .ok (.iload_n 2, 1) := by decide +kernel
theorem dL_log_5 : decode cL_log 5 = .ok (.invokevirtual 89, 3) := by decide +kernel
theorem dL_log_8 : decode cL_log 8 = .ok (.i2l, 1) := by decide +kernel
theorem dL_log_9 : decode cL_log 9 = .ok (.lastore, 1) := by decide +kernel
theorem dL_log_10 : decode cL_log 10 = .ok (.goto 11, 3) := by decide +kernel
theorem dL_log_13 : decode cL_log 13 = .ok (.astore 4, 2) := by decide +kernel
theorem dL_log_15 : decode cL_log 15 = .ok (.iconst 1, 1) := by decide +kernel
theorem dL_log_16 : decode cL_log 16 = .ok (.ireturn, 1) := by decide +kernel
theorem dL_log_17 : decode cL_log 17 = .ok (.astore 4, 2) := by decide +kernel
theorem dL_log_19 : decode cL_log 19 = .ok (.iconst 2, 1) := by decide +kernel
theorem dL_log_20 : decode cL_log 20 = .ok (.ireturn, 1) := by decide +kernel
theorem dL_log_21 : decode cL_log 21 = .ok (.iconst 0, 1) := by decide +kernel
theorem dL_log_22 : decode cL_log 22 = .ok (.ireturn, 1) := by decide +kernel
theorem dL_improvingShare_0 : decode cL_improvingShare 0 = .ok (.aload_n 1, 1) := by decide +kernel
theorem dL_improvingShare_1 : decode cL_improvingShare 1 = .ok (.iconst 0, 1) := by decide +kernel
theorem dL_improvingShare_2 : decode cL_improvingShare 2 = .ok (.aload_n 0, 1) := by decide +kernel
theorem dL_improvingShare_3 : decode cL_improvingShare 3 = .ok (.invokevirtual 92, 3) := by decide +kernel
theorem dL_improvingShare_6 : decode cL_improvingShare 6 = .ok (.dastore, 1) := by decide +kernel
theorem dL_improvingShare_7 : decode cL_improvingShare 7 = .ok (.goto 6, 3) := by decide +kernel
theorem dL_improvingShare_10 : decode cL_improvingShare 10 = .ok (.astore_n 2, 1) := by decide +kernel
theorem dL_improvingShare_11 : decode cL_improvingShare 11 = .ok (.iconst 1, 1) := by decide +kernel
theorem dL_improvingShare_12 : decode cL_improvingShare 12 = .ok (.ireturn, 1) := by decide +kernel
theorem dL_improvingShare_13 : decode cL_improvingShare 13 = .ok (.iconst 0, 1) := by decide +kernel
theorem dL_improvingShare_14 : decode cL_improvingShare 14 = .ok (.ireturn, 1) := by decide +kernel
theorem dL_optimum_0 : decode cL_optimum 0 = .ok (.aload_n 1, 1) := by decide +kernel
theorem dL_optimum_1 : decode cL_optimum 1 = .ok (.iconst 0, 1) := by decide +kernel
theorem dL_optimum_2 : decode cL_optimum 2 = .ok (.aload_n 0, 1) := by decide +kernel
theorem dL_optimum_3 : decode cL_optimum 3 = .ok (.invokevirtual 98, 3) := by decide +kernel
theorem dL_optimum_6 : decode cL_optimum 6 = .ok (.i2l, 1) := by decide +kernel
theorem dL_optimum_7 : decode cL_optimum 7 = .ok (.lastore, 1) := by decide +kernel
theorem dL_optimum_8 : decode cL_optimum 8 = .ok (.goto 6, 3) := by decide +kernel
theorem dL_optimum_11 : decode cL_optimum 11 = .ok (.astore_n 2, 1) := by decide +kernel
theorem dL_optimum_12 : decode cL_optimum 12 = .ok (.iconst 1, 1) := by decide +kernel
theorem dL_optimum_13 : decode cL_optimum 13 = .ok (.ireturn, 1) := by decide +kernel
theorem dL_optimum_14 : decode cL_optimum 14 = .ok (.iconst 0, 1) := by decide +kernel
theorem dL_optimum_15 : decode cL_optimum 15 = .ok (.ireturn, 1) := by decide +kernel
theorem dL_optima_0 : decode cL_optima 0 = .ok (.aload_n 1, 1) := by decide +kernel
theorem dL_optima_1 : decode cL_optima 1 = .ok (.iconst 0, 1) := by decide +kernel
theorem dL_optima_2 : decode cL_optima 2 = .ok (.aload_n 0, 1) := by decide +kernel
theorem dL_optima_3 : decode cL_optima 3 = .ok (.invokevirtual 101, 3) := by decide +kernel
theorem dL_optima_6 : decode cL_optima 6 = .ok (.i2l, 1) := by decide +kernel
theorem dL_optima_7 : decode cL_optima 7 = .ok (.lastore, 1) := by decide +kernel
theorem dL_optima_8 : decode cL_optima 8 = .ok (.goto 6, 3) := by decide +kernel
theorem dL_optima_11 : decode cL_optima 11 = .ok (.astore_n 2, 1) := by decide +kernel
theorem dL_optima_12 : decode cL_optima 12 = .ok (.iconst 1, 1) := by decide +kernel
theorem dL_optima_13 : decode cL_optima 13 = .ok (.ireturn, 1) := by decide +kernel
theorem dL_optima_14 : decode cL_optima 14 = .ok (.iconst 0, 1) := by decide +kernel
theorem dL_optima_15 : decode cL_optima 15 = .ok (.ireturn, 1) := by decide +kernel
theorem dL_optimalValue_0 : decode cL_optimalValue 0 = .ok (.aload_n 2, 1) := by decide +kernel
theorem dL_optimalValue_1 : decode cL_optimalValue 1 = .ok (.iconst 0, 1) := by decide +kernel
theorem dL_optimalValue_2 : decode cL_optimalValue 2 = .ok (.aload_n 0, 1) := by decide +kernel
theorem dL_optimalValue_3 : decode cL_optimalValue 3 = .ok (.iload_n 1, 1) := by decide +kernel
theorem dL_optimalValue_4 : decode cL_optimalValue 4 = .ok (.invokevirtual 104, 3) := by decide +kernel
theorem dL_optimalValue_7 : decode cL_optimalValue 7 = .ok (.i2l, 1) := by decide +kernel
theorem dL_optimalValue_8 : decode cL_optimalValue 8 = .ok (.lastore, 1) := by decide +kernel
theorem dL_optimalValue_9 : decode cL_optimalValue 9 = .ok (.goto 9, 3) := by decide +kernel
theorem dL_optimalValue_12 : decode cL_optimalValue 12 = .ok (.astore_n 3, 1) := by decide +kernel
theorem dL_optimalValue_13 : decode cL_optimalValue 13 = .ok (.iconst 1, 1) := by decide +kernel
theorem dL_optimalValue_14 : decode cL_optimalValue 14 = .ok (.ireturn, 1) := by decide +kernel
theorem dL_optimalValue_15 : decode cL_optimalValue 15 = .ok (.astore_n 3, 1) := by decide +kernel
theorem dL_optimalValue_16 : decode cL_optimalValue 16 = .ok (.iconst 2, 1) := by decide +kernel
theorem dL_optimalValue_17 : decode cL_optimalValue 17 = .ok (.ireturn, 1) := by decide +kernel
theorem dL_optimalValue_18 : decode cL_optimalValue 18 = .ok (.iconst 0, 1) := by decide +kernel
theorem dL_optimalValue_19 : decode cL_optimalValue 19 = .ok (.ireturn, 1) := by decide +kernel
theorem dL_worst_0 : decode cL_worst 0 = .ok (.aload_n 1, 1) := by decide +kernel
theorem dL_worst_1 : decode cL_worst 1 = .ok (.iconst 0, 1) := by decide +kernel
theorem dL_worst_2 : decode cL_worst 2 = .ok (.aload_n 0, 1) := by decide +kernel
theorem dL_worst_3 : decode cL_worst 3 = .ok (.invokevirtual 107, 3) := by decide +kernel
theorem dL_worst_6 : decode cL_worst 6 = .ok (.i2l, 1) := by decide +kernel
theorem dL_worst_7 : decode cL_worst 7 = .ok (.lastore, 1) := by decide +kernel
theorem dL_worst_8 : decode cL_worst 8 = .ok (.goto 6, 3) := by decide +kernel
theorem dL_worst_11 : decode cL_worst 11 = .ok (.astore_n 2, 1) := by decide +kernel
theorem dL_worst_12 : decode cL_worst 12 = .ok (.iconst 1, 1) := by decide +kernel
theorem dL_worst_13 : decode cL_worst 13 = .ok (.ireturn, 1) := by decide +kernel
theorem dL_worst_14 : decode cL_worst 14 = .ok (.iconst 0, 1) := by decide +kernel
theorem dL_worst_15 : decode cL_worst 15 = .ok (.ireturn, 1) := by decide +kernel
theorem dL_unavoidable_0 : decode cL_unavoidable 0 = .ok (.aload_n 1, 1) := by decide +kernel
theorem dL_unavoidable_1 : decode cL_unavoidable 1 = .ok (.iconst 0, 1) := by decide +kernel
theorem dL_unavoidable_2 : decode cL_unavoidable 2 = .ok (.aload_n 0, 1) := by decide +kernel
theorem dL_unavoidable_3 : decode cL_unavoidable 3 = .ok (.invokevirtual 110, 3) := by decide +kernel
theorem dL_unavoidable_6 : decode cL_unavoidable 6 = .ok (.i2l, 1) := by decide +kernel
theorem dL_unavoidable_7 : decode cL_unavoidable 7 = .ok (.lastore, 1) := by decide +kernel
theorem dL_unavoidable_8 : decode cL_unavoidable 8 = .ok (.goto 6, 3) := by decide +kernel
theorem dL_unavoidable_11 : decode cL_unavoidable 11 = .ok (.astore_n 2, 1) := by decide +kernel
theorem dL_unavoidable_12 : decode cL_unavoidable 12 = .ok (.iconst 1, 1) := by decide +kernel
theorem dL_unavoidable_13 : decode cL_unavoidable 13 = .ok (.ireturn, 1) := by decide +kernel
theorem dL_unavoidable_14 : decode cL_unavoidable 14 = .ok (.iconst 0, 1) := by decide +kernel
theorem dL_unavoidable_15 : decode cL_unavoidable 15 = .ok (.ireturn, 1) := by decide +kernel
theorem dL_append_0 : decode cL_append 0 = .ok (.aload_n 2, 1) := by decide +kernel
theorem dL_append_1 : decode cL_append 1 = .ok (.iconst 0, 1) := by decide +kernel
theorem dL_append_2 : decode cL_append 2 = .ok (.aload_n 0, 1) := by decide +kernel
theorem dL_append_3 : decode cL_append 3 = .ok (.iload_n 1, 1) := by decide +kernel
theorem dL_append_4 : decode cL_append 4 = .ok (.invokevirtual 113, 3) := by decide +kernel
theorem dL_append_7 : decode cL_append 7 = .ok (.i2l, 1) := by decide +kernel
theorem dL_append_8 : decode cL_append 8 = .ok (.lastore, 1) := by decide +kernel
theorem dL_append_9 : decode cL_append 9 = .ok (.goto 9, 3) := by decide +kernel
theorem dL_append_12 : decode cL_append 12 = .ok (.astore_n 3, 1) := by decide +kernel
theorem dL_append_13 : decode cL_append 13 = .ok (.iconst 1, 1) := by decide +kernel
theorem dL_append_14 : decode cL_append 14 = .ok (.ireturn, 1) := by decide +kernel
theorem dL_append_15 : decode cL_append 15 = .ok (.astore_n 3, 1) := by decide +kernel
theorem dL_append_16 : decode cL_append 16 = .ok (.iconst 2, 1) := by decide +kernel
theorem dL_append_17 : decode cL_append 17 = .ok (.ireturn, 1) := by decide +kernel
theorem dL_append_18 : decode cL_append 18 = .ok (.iconst 0, 1) := by decide +kernel
theorem dL_append_19 : decode cL_append 19 = .ok (.ireturn, 1) := by decide +kernel
theorem dL_read_0 : decode cL_read 0 = .ok (.aload_n 1, 1) := by decide +kernel
theorem dL_read_1 : decode cL_read 1 = .ok (.iconst 0, 1) := by decide +kernel
theorem dL_read_2 : decode cL_read 2 = .ok (.aload_n 0, 1) := by decide +kernel
theorem dL_read_3 : decode cL_read 3 = .ok (.invokevirtual 117, 3) := by decide +kernel
theorem dL_read_6 : decode cL_read 6 = .ok (.i2l, 1) := by decide +kernel
theorem dL_read_7 : decode cL_read 7 = .ok (.lastore, 1) := by decide +kernel
theorem dL_read_8 : decode cL_read 8 = .ok (.goto 9, 3) := by decide +kernel
theorem dL_read_11 : decode cL_read 11 = .ok (.astore_n 2, 1) := by decide +kernel
theorem dL_read_12 : decode cL_read 12 = .ok (.iconst 1, 1) := by decide +kernel
theorem dL_read_13 : decode cL_read 13 = .ok (.ireturn, 1) := by decide +kernel
theorem dL_read_14 : decode cL_read 14 = .ok (.astore_n 2, 1) := by decide +kernel
theorem dL_read_15 : decode cL_read 15 = .ok (.iconst 2, 1) := by decide +kernel
theorem dL_read_16 : decode cL_read 16 = .ok (.ireturn, 1) := by decide +kernel
theorem dL_read_17 : decode cL_read 17 = .ok (.iconst 0, 1) := by decide +kernel
theorem dL_read_18 : decode cL_read 18 = .ok (.ireturn, 1) := by decide +kernel
theorem dL_errorPosition_0 : decode cL_errorPosition 0 = .ok (.aload_n 1, 1) := by decide +kernel
theorem dL_errorPosition_1 : decode cL_errorPosition 1 = .ok (.iconst 0, 1) := by decide +kernel
theorem dL_errorPosition_2 : decode cL_errorPosition 2 = .ok (.aload_n 0, 1) := by decide +kernel
theorem dL_errorPosition_3 : decode cL_errorPosition 3 = .ok (.invokevirtual 120, 3) := by decide +kernel
theorem dL_errorPosition_6 : decode cL_errorPosition 6 = .ok (.i2l, 1) := by decide +kernel
theorem dL_errorPosition_7 : decode cL_errorPosition 7 = .ok (.lastore, 1) := by decide +kernel
theorem dL_errorPosition_8 : decode cL_errorPosition 8 = .ok (.goto 6, 3) := by decide +kernel
theorem dL_errorPosition_11 : decode cL_errorPosition 11 = .ok (.astore_n 2, 1) := by decide +kernel
theorem dL_errorPosition_12 : decode cL_errorPosition 12 = .ok (.iconst 1, 1) := by decide +kernel
theorem dL_errorPosition_13 : decode cL_errorPosition 13 = .ok (.ireturn, 1) := by decide +kernel
theorem dL_errorPosition_14 : decode cL_errorPosition 14 = .ok (.iconst 0, 1) := by decide +kernel
theorem dL_errorPosition_15 : decode cL_errorPosition 15 = .ok (.ireturn, 1) := by decide +kernel
theorem dL_describe_0 : decode cL_describe 0 = .ok (.aload_n 3, 1) := by decide +kernel
theorem dL_describe_1 : decode cL_describe 1 = .ok (.iconst 0, 1) := by decide +kernel
theorem dL_describe_2 : decode cL_describe 2 = .ok (.aload_n 0, 1) := by decide +kernel
theorem dL_describe_3 : decode cL_describe 3 = .ok (.iload_n 1, 1) := by decide +kernel
theorem dL_describe_4 : decode cL_describe 4 = .ok (.iload_n 2, 1) := by decide +kernel
theorem dL_describe_5 : decode cL_describe 5 = .ok (.invokevirtual 123, 3) := by decide +kernel
theorem dL_describe_8 : decode cL_describe 8 = .ok (.i2l, 1) := by decide +kernel
theorem dL_describe_9 : decode cL_describe 9 = .ok (.lastore, 1) := by decide +kernel
theorem dL_describe_10 : decode cL_describe 10 = .ok (.goto 11, 3) := by decide +kernel
theorem dL_describe_13 : decode cL_describe 13 = .ok (.astore 4, 2) := by decide +kernel
theorem dL_describe_15 : decode cL_describe 15 = .ok (.iconst 1, 1) := by decide +kernel
theorem dL_describe_16 : decode cL_describe 16 = .ok (.ireturn, 1) := by decide +kernel
theorem dL_describe_17 : decode cL_describe 17 = .ok (.astore 4, 2) := by decide +kernel
theorem dL_describe_19 : decode cL_describe 19 = .ok (.iconst 2, 1) := by decide +kernel
theorem dL_describe_20 : decode cL_describe 20 = .ok (.ireturn, 1) := by decide +kernel
theorem dL_describe_21 : decode cL_describe 21 = .ok (.iconst 0, 1) := by decide +kernel
theorem dL_describe_22 : decode cL_describe 22 = .ok (.ireturn, 1) := by decide +kernel
theorem dL_undo_0 : decode cL_undo 0 = .ok (.aload_n 1, 1) := by decide +kernel
theorem dL_undo_1 : decode cL_undo 1 = .ok (.iconst 0, 1) := by decide +kernel
theorem dL_undo_2 : decode cL_undo 2 = .ok (.aload_n 0, 1) := by decide +kernel
theorem dL_undo_3 : decode cL_undo 3 = .ok (.invokevirtual 126, 3) := by decide +kernel
theorem dL_undo_6 : decode cL_undo 6 = .ok (.i2l, 1) := by decide +kernel
theorem dL_undo_7 : decode cL_undo 7 = .ok (.lastore, 1) := by decide +kernel
theorem dL_undo_8 : decode cL_undo 8 = .ok (.goto 6, 3) := by decide +kernel
theorem dL_undo_11 : decode cL_undo 11 = .ok (.astore_n 2, 1) := by decide +kernel
theorem dL_undo_12 : decode cL_undo 12 = .ok (.iconst 1, 1) := by decide +kernel
theorem dL_undo_13 : decode cL_undo 13 = .ok (.ireturn, 1) := by decide +kernel
theorem dL_undo_14 : decode cL_undo 14 = .ok (.iconst 0, 1) := by decide +kernel
theorem dL_undo_15 : decode cL_undo 15 = .ok (.ireturn, 1) := by decide +kernel
theorem dL_restore_0 : decode cL_restore 0 = .ok (.aload_n 1, 1) := by decide +kernel
theorem dL_restore_1 : decode cL_restore 1 = .ok (.iconst 0, 1) := by decide +kernel
theorem dL_restore_2 : decode cL_restore 2 = .ok (.aload_n 0, 1) := by decide +kernel
theorem dL_restore_3 : decode cL_restore 3 = .ok (.invokevirtual 129, 3) := by decide +kernel
theorem dL_restore_6 : decode cL_restore 6 = .ok (.i2l, 1) := by decide +kernel
theorem dL_restore_7 : decode cL_restore 7 = .ok (.lastore, 1) := by decide +kernel
theorem dL_restore_8 : decode cL_restore 8 = .ok (.goto 6, 3) := by decide +kernel
theorem dL_restore_11 : decode cL_restore 11 = .ok (.astore_n 2, 1) := by decide +kernel
theorem dL_restore_12 : decode cL_restore 12 = .ok (.iconst 1, 1) := by decide +kernel
theorem dL_restore_13 : decode cL_restore 13 = .ok (.ireturn, 1) := by decide +kernel
theorem dL_restore_14 : decode cL_restore 14 = .ok (.iconst 0, 1) := by decide +kernel
theorem dL_restore_15 : decode cL_restore 15 = .ok (.ireturn, 1) := by decide +kernel
theorem dL_law_0 : decode cL_law 0 = .ok (.new 8, 3) := by decide +kernel
theorem dL_law_3 : decode cL_law 3 = .ok (.dup, 1) := by decide +kernel
theorem dL_law_4 : decode cL_law 4 = .ok (.invokespecial 132, 3) := by decide +kernel
theorem dL_law_7 : decode cL_law 7 = .ok (.astore_n 1, 1) := by decide +kernel
theorem dL_law_8 : decode cL_law 8 = .ok (.new 133, 3) := by decide +kernel
theorem dL_law_11 : decode cL_law 11 = .ok (.dup, 1) := by decide +kernel
theorem dL_law_12 : decode cL_law 12 = .ok (.invokespecial 135, 3) := by decide +kernel
theorem dL_law_15 : decode cL_law 15 = .ok (.astore_n 2, 1) := by decide +kernel
theorem dL_law_16 : decode cL_law 16 = .ok (.iconst 1, 1) := by decide +kernel
theorem dL_law_17 : decode cL_law 17 = .ok (.newarray .long, 2) := by decide +kernel
theorem dL_law_19 : decode cL_law 19 = .ok (.astore_n 3, 1) := by decide +kernel
theorem dL_law_20 : decode cL_law 20 = .ok (.iconst 1, 1) := by decide +kernel
theorem dL_law_21 : decode cL_law 21 = .ok (.newarray .double, 2) := by decide +kernel
theorem dL_law_23 : decode cL_law 23 = .ok (.astore 4, 2) := by decide +kernel
theorem dL_law_25 : decode cL_law 25 = .ok (.iconst 0, 1) := by decide +kernel
theorem dL_law_26 : decode cL_law 26 = .ok (.istore 5, 2) := by decide +kernel
theorem dL_law_28 : decode cL_law 28 = .ok (.iload 5, 2) := by decide +kernel
theorem dL_law_30 : decode cL_law 30 = .ok (.aload_n 0, 1) := by decide +kernel
theorem dL_law_31 : decode cL_law 31 = .ok (.arraylength, 1) := by decide +kernel
theorem dL_law_32 : decode cL_law 32 = .ok (.iconst 5, 1) := by decide +kernel
theorem dL_law_33 : decode cL_law 33 = .ok (.isub, 1) := by decide +kernel
theorem dL_law_34 : decode cL_law 34 = .ok (.if_icmp .gt 2388, 3) := by decide +kernel
theorem dL_law_37 : decode cL_law 37 = .ok (.aload_n 0, 1) := by decide +kernel
theorem dL_law_38 : decode cL_law 38 = .ok (.iload 5, 2) := by decide +kernel
theorem dL_law_40 : decode cL_law 40 = .ok (.iaload, 1) := by decide +kernel
theorem dL_law_41 : decode cL_law 41 = .ok (.bipush 63, 2) := by decide +kernel
theorem dL_law_43 : decode cL_law 43 = .ok (.iand, 1) := by decide +kernel
theorem dL_law_44 : decode cL_law 44 = .ok (.tableswitch 2372 0 44 #[196, 209, 265, 333, 425, 481, 549, 617, 673, 741, 809, 822, 835, 919, 963, 1019, 1032, 1088, 1144, 1200, 1256, 1297, 1365, 1409, 1484, 1497, 1541, 1597, 1610, 1623, 1679, 1692, 1760, 1825, 1869, 1913, 1969, 2013, 2057, 2115, 2159, 2203, 2271, 2315, 2328], 196) := by decide +kernel
theorem dL_law_240 : decode cL_law 240 = .ok (.aload_n 1, 1) := by decide +kernel
theorem dL_law_241 : decode cL_law 241 = .ok (.invokevirtual 136, 3) := by decide +kernel
theorem dL_law_244 : decode cL_law 244 = .ok (.aload_n 2, 1) := by decide +kernel
theorem dL_law_245 : decode cL_law 245 = .ok (.invokevirtual 139, 3) := by decide +kernel
theorem dL_law_248 : decode cL_law 248 = .ok (.if_icmp .eq 2168, 3) := by decide +kernel
theorem dL_law_251 : decode cL_law 251 = .ok (.iconst 0, 1) := by decide +kernel
theorem dL_law_252 : decode cL_law 252 = .ok (.ireturn, 1) := by decide +kernel
theorem dL_law_253 : decode cL_law 253 = .ok (.aload_n 1, 1) := by decide +kernel
theorem dL_law_254 : decode cL_law 254 = .ok (.aload_n 0, 1) := by decide +kernel
theorem dL_law_255 : decode cL_law 255 = .ok (.iload 5, 2) := by decide +kernel
theorem dL_law_257 : decode cL_law 257 = .ok (.iconst 1, 1) := by decide +kernel
theorem dL_law_258 : decode cL_law 258 = .ok (.iadd, 1) := by decide +kernel
theorem dL_law_259 : decode cL_law 259 = .ok (.iaload, 1) := by decide +kernel
theorem dL_law_260 : decode cL_law 260 = .ok (.aload_n 3, 1) := by decide +kernel
theorem dL_law_261 : decode cL_law 261 = .ok (.invokestatic 140, 3) := by decide +kernel
theorem dL_law_264 : decode cL_law 264 = .ok (.istore 6, 2) := by decide +kernel
theorem dL_law_266 : decode cL_law 266 = .ok (.aload_n 2, 1) := by decide +kernel
theorem dL_law_267 : decode cL_law 267 = .ok (.aload_n 0, 1) := by decide +kernel
theorem dL_law_268 : decode cL_law 268 = .ok (.iload 5, 2) := by decide +kernel
theorem dL_law_270 : decode cL_law 270 = .ok (.iconst 1, 1) := by decide +kernel
theorem dL_law_271 : decode cL_law 271 = .ok (.iadd, 1) := by decide +kernel
theorem dL_law_272 : decode cL_law 272 = .ok (.iaload, 1) := by decide +kernel
theorem dL_law_273 : decode cL_law 273 = .ok (.invokevirtual 145, 3) := by decide +kernel
theorem dL_law_276 : decode cL_law 276 = .ok (.istore 7, 2) := by decide +kernel
theorem dL_law_278 : decode cL_law 278 = .ok (.aload_n 2, 1) := by decide +kernel
theorem dL_law_279 : decode cL_law 279 = .ok (.invokevirtual 146, 3) := by decide +kernel
theorem dL_law_282 : decode cL_law 282 = .ok (.iload 6, 2) := by decide +kernel
theorem dL_law_284 : decode cL_law 284 = .ok (.if_icmp .eq 5, 3) := by decide +kernel
theorem dL_law_287 : decode cL_law 287 = .ok (.iconst 0, 1) := by decide +kernel
theorem dL_law_288 : decode cL_law 288 = .ok (.ireturn, 1) := by decide +kernel
theorem dL_law_289 : decode cL_law 289 = .ok (.iload 6, 2) := by decide +kernel
theorem dL_law_291 : decode cL_law 291 = .ok (.ifCond .ne 15, 3) := by decide +kernel
theorem dL_law_294 : decode cL_law 294 = .ok (.aload_n 3, 1) := by decide +kernel
theorem dL_law_295 : decode cL_law 295 = .ok (.iconst 0, 1) := by decide +kernel
theorem dL_law_296 : decode cL_law 296 = .ok (.laload, 1) := by decide +kernel
theorem dL_law_297 : decode cL_law 297 = .ok (.iload 7, 2) := by decide +kernel
theorem dL_law_299 : decode cL_law 299 = .ok (.i2l, 1) := by decide +kernel
theorem dL_law_300 : decode cL_law 300 = .ok (.lcmp, 1) := by decide +kernel
theorem dL_law_301 : decode cL_law 301 = .ok (.ifCond .eq 5, 3) := by decide +kernel
theorem dL_law_304 : decode cL_law 304 = .ok (.iconst 0, 1) := by decide +kernel
theorem dL_law_305 : decode cL_law 305 = .ok (.ireturn, 1) := by decide +kernel
theorem dL_law_306 : decode cL_law 306 = .ok (.goto 2110, 3) := by decide +kernel
theorem dL_law_309 : decode cL_law 309 = .ok (.aload_n 1, 1) := by decide +kernel
theorem dL_law_310 : decode cL_law 310 = .ok (.aload_n 0, 1) := by decide +kernel
theorem dL_law_311 : decode cL_law 311 = .ok (.iload 5, 2) := by decide +kernel
theorem dL_law_313 : decode cL_law 313 = .ok (.iconst 1, 1) := by decide +kernel
theorem dL_law_314 : decode cL_law 314 = .ok (.iadd, 1) := by decide +kernel
theorem dL_law_315 : decode cL_law 315 = .ok (.iaload, 1) := by decide +kernel
theorem dL_law_316 : decode cL_law 316 = .ok (.aload_n 0, 1) := by decide +kernel
theorem dL_law_317 : decode cL_law 317 = .ok (.iload 5, 2) := by decide +kernel
theorem dL_law_319 : decode cL_law 319 = .ok (.iconst 2, 1) := by decide +kernel
theorem dL_law_320 : decode cL_law 320 = .ok (.iadd, 1) := by decide +kernel
theorem dL_law_321 : decode cL_law 321 = .ok (.iaload, 1) := by decide +kernel
theorem dL_law_322 : decode cL_law 322 = .ok (.aload_n 3, 1) := by decide +kernel
theorem dL_law_323 : decode cL_law 323 = .ok (.invokestatic 149, 3) := by decide +kernel
theorem dL_law_326 : decode cL_law 326 = .ok (.istore 6, 2) := by decide +kernel
theorem dL_law_328 : decode cL_law 328 = .ok (.aload_n 2, 1) := by decide +kernel
theorem dL_law_329 : decode cL_law 329 = .ok (.aload_n 0, 1) := by decide +kernel
theorem dL_law_330 : decode cL_law 330 = .ok (.iload 5, 2) := by decide +kernel
theorem dL_law_332 : decode cL_law 332 = .ok (.iconst 1, 1) := by decide +kernel
theorem dL_law_333 : decode cL_law 333 = .ok (.iadd, 1) := by decide +kernel
theorem dL_law_334 : decode cL_law 334 = .ok (.iaload, 1) := by decide +kernel
theorem dL_law_335 : decode cL_law 335 = .ok (.aload_n 0, 1) := by decide +kernel
theorem dL_law_336 : decode cL_law 336 = .ok (.iload 5, 2) := by decide +kernel
theorem dL_law_338 : decode cL_law 338 = .ok (.iconst 2, 1) := by decide +kernel
theorem dL_law_339 : decode cL_law 339 = .ok (.iadd, 1) := by decide +kernel
theorem dL_law_340 : decode cL_law 340 = .ok (.iaload, 1) := by decide +kernel
theorem dL_law_341 : decode cL_law 341 = .ok (.invokevirtual 152, 3) := by decide +kernel
theorem dL_law_344 : decode cL_law 344 = .ok (.istore 7, 2) := by decide +kernel
theorem dL_law_346 : decode cL_law 346 = .ok (.aload_n 2, 1) := by decide +kernel
theorem dL_law_347 : decode cL_law 347 = .ok (.invokevirtual 146, 3) := by decide +kernel
theorem dL_law_350 : decode cL_law 350 = .ok (.iload 6, 2) := by decide +kernel
theorem dL_law_352 : decode cL_law 352 = .ok (.if_icmp .eq 5, 3) := by decide +kernel
theorem dL_law_355 : decode cL_law 355 = .ok (.iconst 0, 1) := by decide +kernel
theorem dL_law_356 : decode cL_law 356 = .ok (.ireturn, 1) := by decide +kernel
theorem dL_law_357 : decode cL_law 357 = .ok (.iload 6, 2) := by decide +kernel
theorem dL_law_359 : decode cL_law 359 = .ok (.ifCond .ne 15, 3) := by decide +kernel
theorem dL_law_362 : decode cL_law 362 = .ok (.aload_n 3, 1) := by decide +kernel
theorem dL_law_363 : decode cL_law 363 = .ok (.iconst 0, 1) := by decide +kernel
theorem dL_law_364 : decode cL_law 364 = .ok (.laload, 1) := by decide +kernel
theorem dL_law_365 : decode cL_law 365 = .ok (.iload 7, 2) := by decide +kernel
theorem dL_law_367 : decode cL_law 367 = .ok (.i2l, 1) := by decide +kernel
theorem dL_law_368 : decode cL_law 368 = .ok (.lcmp, 1) := by decide +kernel
theorem dL_law_369 : decode cL_law 369 = .ok (.ifCond .eq 5, 3) := by decide +kernel
theorem dL_law_372 : decode cL_law 372 = .ok (.iconst 0, 1) := by decide +kernel
theorem dL_law_373 : decode cL_law 373 = .ok (.ireturn, 1) := by decide +kernel
theorem dL_law_374 : decode cL_law 374 = .ok (.goto 2042, 3) := by decide +kernel
theorem dL_law_377 : decode cL_law 377 = .ok (.aload_n 1, 1) := by decide +kernel
theorem dL_law_378 : decode cL_law 378 = .ok (.aload_n 0, 1) := by decide +kernel
theorem dL_law_379 : decode cL_law 379 = .ok (.iload 5, 2) := by decide +kernel
theorem dL_law_381 : decode cL_law 381 = .ok (.iconst 1, 1) := by decide +kernel
theorem dL_law_382 : decode cL_law 382 = .ok (.iadd, 1) := by decide +kernel
theorem dL_law_383 : decode cL_law 383 = .ok (.iaload, 1) := by decide +kernel
theorem dL_law_384 : decode cL_law 384 = .ok (.aload_n 0, 1) := by decide +kernel
theorem dL_law_385 : decode cL_law 385 = .ok (.iload 5, 2) := by decide +kernel
theorem dL_law_387 : decode cL_law 387 = .ok (.iconst 2, 1) := by decide +kernel
theorem dL_law_388 : decode cL_law 388 = .ok (.iadd, 1) := by decide +kernel
theorem dL_law_389 : decode cL_law 389 = .ok (.iaload, 1) := by decide +kernel
theorem dL_law_390 : decode cL_law 390 = .ok (.aload_n 0, 1) := by decide +kernel
theorem dL_law_391 : decode cL_law 391 = .ok (.iload 5, 2) := by decide +kernel
theorem dL_law_393 : decode cL_law 393 = .ok (.iconst 3, 1) := by decide +kernel
theorem dL_law_394 : decode cL_law 394 = .ok (.iadd, 1) := by decide +kernel
theorem dL_law_395 : decode cL_law 395 = .ok (.iaload, 1) := by decide +kernel
theorem dL_law_396 : decode cL_law 396 = .ok (.aload_n 0, 1) := by decide +kernel
theorem dL_law_397 : decode cL_law 397 = .ok (.iload 5, 2) := by decide +kernel
theorem dL_law_399 : decode cL_law 399 = .ok (.iconst 4, 1) := by decide +kernel
theorem dL_law_400 : decode cL_law 400 = .ok (.iadd, 1) := by decide +kernel
theorem dL_law_401 : decode cL_law 401 = .ok (.iaload, 1) := by decide +kernel
theorem dL_law_402 : decode cL_law 402 = .ok (.aload_n 3, 1) := by decide +kernel
theorem dL_law_403 : decode cL_law 403 = .ok (.invokestatic 153, 3) := by decide +kernel
theorem dL_law_406 : decode cL_law 406 = .ok (.istore 6, 2) := by decide +kernel
theorem dL_law_408 : decode cL_law 408 = .ok (.aload_n 2, 1) := by decide +kernel
theorem dL_law_409 : decode cL_law 409 = .ok (.aload_n 0, 1) := by decide +kernel
theorem dL_law_410 : decode cL_law 410 = .ok (.iload 5, 2) := by decide +kernel
theorem dL_law_412 : decode cL_law 412 = .ok (.iconst 1, 1) := by decide +kernel
theorem dL_law_413 : decode cL_law 413 = .ok (.iadd, 1) := by decide +kernel
theorem dL_law_414 : decode cL_law 414 = .ok (.iaload, 1) := by decide +kernel
theorem dL_law_415 : decode cL_law 415 = .ok (.aload_n 0, 1) := by decide +kernel
theorem dL_law_416 : decode cL_law 416 = .ok (.iload 5, 2) := by decide +kernel
theorem dL_law_418 : decode cL_law 418 = .ok (.iconst 2, 1) := by decide +kernel
theorem dL_law_419 : decode cL_law 419 = .ok (.iadd, 1) := by decide +kernel
theorem dL_law_420 : decode cL_law 420 = .ok (.iaload, 1) := by decide +kernel
theorem dL_law_421 : decode cL_law 421 = .ok (.aload_n 0, 1) := by decide +kernel
theorem dL_law_422 : decode cL_law 422 = .ok (.iload 5, 2) := by decide +kernel
theorem dL_law_424 : decode cL_law 424 = .ok (.iconst 3, 1) := by decide +kernel
theorem dL_law_425 : decode cL_law 425 = .ok (.iadd, 1) := by decide +kernel
theorem dL_law_426 : decode cL_law 426 = .ok (.iaload, 1) := by decide +kernel
theorem dL_law_427 : decode cL_law 427 = .ok (.aload_n 0, 1) := by decide +kernel
theorem dL_law_428 : decode cL_law 428 = .ok (.iload 5, 2) := by decide +kernel
theorem dL_law_430 : decode cL_law 430 = .ok (.iconst 4, 1) := by decide +kernel
theorem dL_law_431 : decode cL_law 431 = .ok (.iadd, 1) := by decide +kernel
theorem dL_law_432 : decode cL_law 432 = .ok (.iaload, 1) := by decide +kernel
theorem dL_law_433 : decode cL_law 433 = .ok (.invokevirtual 156, 3) := by decide +kernel
theorem dL_law_436 : decode cL_law 436 = .ok (.istore 7, 2) := by decide +kernel
theorem dL_law_438 : decode cL_law 438 = .ok (.aload_n 2, 1) := by decide +kernel
theorem dL_law_439 : decode cL_law 439 = .ok (.invokevirtual 146, 3) := by decide +kernel
theorem dL_law_442 : decode cL_law 442 = .ok (.iload 6, 2) := by decide +kernel
theorem dL_law_444 : decode cL_law 444 = .ok (.if_icmp .eq 5, 3) := by decide +kernel
theorem dL_law_447 : decode cL_law 447 = .ok (.iconst 0, 1) := by decide +kernel
theorem dL_law_448 : decode cL_law 448 = .ok (.ireturn, 1) := by decide +kernel
theorem dL_law_449 : decode cL_law 449 = .ok (.iload 6, 2) := by decide +kernel
theorem dL_law_451 : decode cL_law 451 = .ok (.ifCond .ne 15, 3) := by decide +kernel
theorem dL_law_454 : decode cL_law 454 = .ok (.aload_n 3, 1) := by decide +kernel
theorem dL_law_455 : decode cL_law 455 = .ok (.iconst 0, 1) := by decide +kernel
theorem dL_law_456 : decode cL_law 456 = .ok (.laload, 1) := by decide +kernel
theorem dL_law_457 : decode cL_law 457 = .ok (.iload 7, 2) := by decide +kernel
theorem dL_law_459 : decode cL_law 459 = .ok (.i2l, 1) := by decide +kernel
theorem dL_law_460 : decode cL_law 460 = .ok (.lcmp, 1) := by decide +kernel
theorem dL_law_461 : decode cL_law 461 = .ok (.ifCond .eq 5, 3) := by decide +kernel
theorem dL_law_464 : decode cL_law 464 = .ok (.iconst 0, 1) := by decide +kernel
theorem dL_law_465 : decode cL_law 465 = .ok (.ireturn, 1) := by decide +kernel
theorem dL_law_466 : decode cL_law 466 = .ok (.goto 1950, 3) := by decide +kernel
theorem dL_law_469 : decode cL_law 469 = .ok (.aload_n 1, 1) := by decide +kernel
theorem dL_law_470 : decode cL_law 470 = .ok (.aload_n 0, 1) := by decide +kernel
theorem dL_law_471 : decode cL_law 471 = .ok (.iload 5, 2) := by decide +kernel
theorem dL_law_473 : decode cL_law 473 = .ok (.iconst 1, 1) := by decide +kernel
theorem dL_law_474 : decode cL_law 474 = .ok (.iadd, 1) := by decide +kernel
theorem dL_law_475 : decode cL_law 475 = .ok (.iaload, 1) := by decide +kernel
theorem dL_law_476 : decode cL_law 476 = .ok (.aload_n 3, 1) := by decide +kernel
theorem dL_law_477 : decode cL_law 477 = .ok (.invokestatic 157, 3) := by decide +kernel
theorem dL_law_480 : decode cL_law 480 = .ok (.istore 6, 2) := by decide +kernel
theorem dL_law_482 : decode cL_law 482 = .ok (.aload_n 2, 1) := by decide +kernel
theorem dL_law_483 : decode cL_law 483 = .ok (.aload_n 0, 1) := by decide +kernel
theorem dL_law_484 : decode cL_law 484 = .ok (.iload 5, 2) := by decide +kernel
theorem dL_law_486 : decode cL_law 486 = .ok (.iconst 1, 1) := by decide +kernel
theorem dL_law_487 : decode cL_law 487 = .ok (.iadd, 1) := by decide +kernel
theorem dL_law_488 : decode cL_law 488 = .ok (.iaload, 1) := by decide +kernel
theorem dL_law_489 : decode cL_law 489 = .ok (.invokevirtual 159, 3) := by decide +kernel
theorem dL_law_492 : decode cL_law 492 = .ok (.istore 7, 2) := by decide +kernel
theorem dL_law_494 : decode cL_law 494 = .ok (.aload_n 2, 1) := by decide +kernel
theorem dL_law_495 : decode cL_law 495 = .ok (.invokevirtual 146, 3) := by decide +kernel
theorem dL_law_498 : decode cL_law 498 = .ok (.iload 6, 2) := by decide +kernel
theorem dL_law_500 : decode cL_law 500 = .ok (.if_icmp .eq 5, 3) := by decide +kernel
theorem dL_law_503 : decode cL_law 503 = .ok (.iconst 0, 1) := by decide +kernel
theorem dL_law_504 : decode cL_law 504 = .ok (.ireturn, 1) := by decide +kernel
theorem dL_law_505 : decode cL_law 505 = .ok (.iload 6, 2) := by decide +kernel
theorem dL_law_507 : decode cL_law 507 = .ok (.ifCond .ne 15, 3) := by decide +kernel
theorem dL_law_510 : decode cL_law 510 = .ok (.aload_n 3, 1) := by decide +kernel
theorem dL_law_511 : decode cL_law 511 = .ok (.iconst 0, 1) := by decide +kernel
theorem dL_law_512 : decode cL_law 512 = .ok (.laload, 1) := by decide +kernel
theorem dL_law_513 : decode cL_law 513 = .ok (.iload 7, 2) := by decide +kernel
theorem dL_law_515 : decode cL_law 515 = .ok (.i2l, 1) := by decide +kernel
theorem dL_law_516 : decode cL_law 516 = .ok (.lcmp, 1) := by decide +kernel
theorem dL_law_517 : decode cL_law 517 = .ok (.ifCond .eq 5, 3) := by decide +kernel
theorem dL_law_520 : decode cL_law 520 = .ok (.iconst 0, 1) := by decide +kernel
theorem dL_law_521 : decode cL_law 521 = .ok (.ireturn, 1) := by decide +kernel
theorem dL_law_522 : decode cL_law 522 = .ok (.goto 1894, 3) := by decide +kernel
theorem dL_law_525 : decode cL_law 525 = .ok (.aload_n 1, 1) := by decide +kernel
theorem dL_law_526 : decode cL_law 526 = .ok (.aload_n 0, 1) := by decide +kernel
theorem dL_law_527 : decode cL_law 527 = .ok (.iload 5, 2) := by decide +kernel
theorem dL_law_529 : decode cL_law 529 = .ok (.iconst 1, 1) := by decide +kernel
theorem dL_law_530 : decode cL_law 530 = .ok (.iadd, 1) := by decide +kernel
theorem dL_law_531 : decode cL_law 531 = .ok (.iaload, 1) := by decide +kernel
theorem dL_law_532 : decode cL_law 532 = .ok (.aload_n 0, 1) := by decide +kernel
theorem dL_law_533 : decode cL_law 533 = .ok (.iload 5, 2) := by decide +kernel
theorem dL_law_535 : decode cL_law 535 = .ok (.iconst 2, 1) := by decide +kernel
theorem dL_law_536 : decode cL_law 536 = .ok (.iadd, 1) := by decide +kernel
theorem dL_law_537 : decode cL_law 537 = .ok (.iaload, 1) := by decide +kernel
theorem dL_law_538 : decode cL_law 538 = .ok (.aload_n 3, 1) := by decide +kernel
theorem dL_law_539 : decode cL_law 539 = .ok (.invokestatic 160, 3) := by decide +kernel
theorem dL_law_542 : decode cL_law 542 = .ok (.istore 6, 2) := by decide +kernel
theorem dL_law_544 : decode cL_law 544 = .ok (.aload_n 2, 1) := by decide +kernel
theorem dL_law_545 : decode cL_law 545 = .ok (.aload_n 0, 1) := by decide +kernel
theorem dL_law_546 : decode cL_law 546 = .ok (.iload 5, 2) := by decide +kernel
theorem dL_law_548 : decode cL_law 548 = .ok (.iconst 1, 1) := by decide +kernel
theorem dL_law_549 : decode cL_law 549 = .ok (.iadd, 1) := by decide +kernel
theorem dL_law_550 : decode cL_law 550 = .ok (.iaload, 1) := by decide +kernel
theorem dL_law_551 : decode cL_law 551 = .ok (.aload_n 0, 1) := by decide +kernel
theorem dL_law_552 : decode cL_law 552 = .ok (.iload 5, 2) := by decide +kernel
theorem dL_law_554 : decode cL_law 554 = .ok (.iconst 2, 1) := by decide +kernel
theorem dL_law_555 : decode cL_law 555 = .ok (.iadd, 1) := by decide +kernel
theorem dL_law_556 : decode cL_law 556 = .ok (.iaload, 1) := by decide +kernel
theorem dL_law_557 : decode cL_law 557 = .ok (.invokevirtual 162, 3) := by decide +kernel
theorem dL_law_560 : decode cL_law 560 = .ok (.istore 7, 2) := by decide +kernel
theorem dL_law_562 : decode cL_law 562 = .ok (.aload_n 2, 1) := by decide +kernel
theorem dL_law_563 : decode cL_law 563 = .ok (.invokevirtual 146, 3) := by decide +kernel
theorem dL_law_566 : decode cL_law 566 = .ok (.iload 6, 2) := by decide +kernel
theorem dL_law_568 : decode cL_law 568 = .ok (.if_icmp .eq 5, 3) := by decide +kernel
theorem dL_law_571 : decode cL_law 571 = .ok (.iconst 0, 1) := by decide +kernel
theorem dL_law_572 : decode cL_law 572 = .ok (.ireturn, 1) := by decide +kernel
theorem dL_law_573 : decode cL_law 573 = .ok (.iload 6, 2) := by decide +kernel
theorem dL_law_575 : decode cL_law 575 = .ok (.ifCond .ne 15, 3) := by decide +kernel
theorem dL_law_578 : decode cL_law 578 = .ok (.aload_n 3, 1) := by decide +kernel
theorem dL_law_579 : decode cL_law 579 = .ok (.iconst 0, 1) := by decide +kernel
theorem dL_law_580 : decode cL_law 580 = .ok (.laload, 1) := by decide +kernel
theorem dL_law_581 : decode cL_law 581 = .ok (.iload 7, 2) := by decide +kernel
theorem dL_law_583 : decode cL_law 583 = .ok (.i2l, 1) := by decide +kernel
theorem dL_law_584 : decode cL_law 584 = .ok (.lcmp, 1) := by decide +kernel
theorem dL_law_585 : decode cL_law 585 = .ok (.ifCond .eq 5, 3) := by decide +kernel
theorem dL_law_588 : decode cL_law 588 = .ok (.iconst 0, 1) := by decide +kernel
theorem dL_law_589 : decode cL_law 589 = .ok (.ireturn, 1) := by decide +kernel
theorem dL_law_590 : decode cL_law 590 = .ok (.goto 1826, 3) := by decide +kernel
theorem dL_law_593 : decode cL_law 593 = .ok (.aload_n 1, 1) := by decide +kernel
theorem dL_law_594 : decode cL_law 594 = .ok (.aload_n 0, 1) := by decide +kernel
theorem dL_law_595 : decode cL_law 595 = .ok (.iload 5, 2) := by decide +kernel
theorem dL_law_597 : decode cL_law 597 = .ok (.iconst 1, 1) := by decide +kernel
theorem dL_law_598 : decode cL_law 598 = .ok (.iadd, 1) := by decide +kernel
theorem dL_law_599 : decode cL_law 599 = .ok (.iaload, 1) := by decide +kernel
theorem dL_law_600 : decode cL_law 600 = .ok (.aload_n 0, 1) := by decide +kernel
theorem dL_law_601 : decode cL_law 601 = .ok (.iload 5, 2) := by decide +kernel
theorem dL_law_603 : decode cL_law 603 = .ok (.iconst 2, 1) := by decide +kernel
theorem dL_law_604 : decode cL_law 604 = .ok (.iadd, 1) := by decide +kernel
theorem dL_law_605 : decode cL_law 605 = .ok (.iaload, 1) := by decide +kernel
theorem dL_law_606 : decode cL_law 606 = .ok (.aload_n 3, 1) := by decide +kernel
theorem dL_law_607 : decode cL_law 607 = .ok (.invokestatic 163, 3) := by decide +kernel
theorem dL_law_610 : decode cL_law 610 = .ok (.istore 6, 2) := by decide +kernel
theorem dL_law_612 : decode cL_law 612 = .ok (.aload_n 2, 1) := by decide +kernel
theorem dL_law_613 : decode cL_law 613 = .ok (.aload_n 0, 1) := by decide +kernel
theorem dL_law_614 : decode cL_law 614 = .ok (.iload 5, 2) := by decide +kernel
theorem dL_law_616 : decode cL_law 616 = .ok (.iconst 1, 1) := by decide +kernel
theorem dL_law_617 : decode cL_law 617 = .ok (.iadd, 1) := by decide +kernel
theorem dL_law_618 : decode cL_law 618 = .ok (.iaload, 1) := by decide +kernel
theorem dL_law_619 : decode cL_law 619 = .ok (.aload_n 0, 1) := by decide +kernel
theorem dL_law_620 : decode cL_law 620 = .ok (.iload 5, 2) := by decide +kernel
theorem dL_law_622 : decode cL_law 622 = .ok (.iconst 2, 1) := by decide +kernel
theorem dL_law_623 : decode cL_law 623 = .ok (.iadd, 1) := by decide +kernel
theorem dL_law_624 : decode cL_law 624 = .ok (.iaload, 1) := by decide +kernel
theorem dL_law_625 : decode cL_law 625 = .ok (.invokevirtual 165, 3) := by decide +kernel
theorem dL_law_628 : decode cL_law 628 = .ok (.istore 7, 2) := by decide +kernel
theorem dL_law_630 : decode cL_law 630 = .ok (.aload_n 2, 1) := by decide +kernel
theorem dL_law_631 : decode cL_law 631 = .ok (.invokevirtual 146, 3) := by decide +kernel
theorem dL_law_634 : decode cL_law 634 = .ok (.iload 6, 2) := by decide +kernel
theorem dL_law_636 : decode cL_law 636 = .ok (.if_icmp .eq 5, 3) := by decide +kernel
theorem dL_law_639 : decode cL_law 639 = .ok (.iconst 0, 1) := by decide +kernel
theorem dL_law_640 : decode cL_law 640 = .ok (.ireturn, 1) := by decide +kernel
theorem dL_law_641 : decode cL_law 641 = .ok (.iload 6, 2) := by decide +kernel
theorem dL_law_643 : decode cL_law 643 = .ok (.ifCond .ne 15, 3) := by decide +kernel
theorem dL_law_646 : decode cL_law 646 = .ok (.aload_n 3, 1) := by decide +kernel
theorem dL_law_647 : decode cL_law 647 = .ok (.iconst 0, 1) := by decide +kernel
theorem dL_law_648 : decode cL_law 648 = .ok (.laload, 1) := by decide +kernel
theorem dL_law_649 : decode cL_law 649 = .ok (.iload 7, 2) := by decide +kernel
theorem dL_law_651 : decode cL_law 651 = .ok (.i2l, 1) := by decide +kernel
theorem dL_law_652 : decode cL_law 652 = .ok (.lcmp, 1) := by decide +kernel
theorem dL_law_653 : decode cL_law 653 = .ok (.ifCond .eq 5, 3) := by decide +kernel
theorem dL_law_656 : decode cL_law 656 = .ok (.iconst 0, 1) := by decide +kernel
theorem dL_law_657 : decode cL_law 657 = .ok (.ireturn, 1) := by decide +kernel
theorem dL_law_658 : decode cL_law 658 = .ok (.goto 1758, 3) := by decide +kernel
theorem dL_law_661 : decode cL_law 661 = .ok (.aload_n 1, 1) := by decide +kernel
theorem dL_law_662 : decode cL_law 662 = .ok (.aload_n 0, 1) := by decide +kernel
theorem dL_law_663 : decode cL_law 663 = .ok (.iload 5, 2) := by decide +kernel
theorem dL_law_665 : decode cL_law 665 = .ok (.iconst 1, 1) := by decide +kernel
theorem dL_law_666 : decode cL_law 666 = .ok (.iadd, 1) := by decide +kernel
theorem dL_law_667 : decode cL_law 667 = .ok (.iaload, 1) := by decide +kernel
theorem dL_law_668 : decode cL_law 668 = .ok (.aload_n 3, 1) := by decide +kernel
theorem dL_law_669 : decode cL_law 669 = .ok (.invokestatic 166, 3) := by decide +kernel
theorem dL_law_672 : decode cL_law 672 = .ok (.istore 6, 2) := by decide +kernel
theorem dL_law_674 : decode cL_law 674 = .ok (.aload_n 2, 1) := by decide +kernel
theorem dL_law_675 : decode cL_law 675 = .ok (.aload_n 0, 1) := by decide +kernel
theorem dL_law_676 : decode cL_law 676 = .ok (.iload 5, 2) := by decide +kernel
theorem dL_law_678 : decode cL_law 678 = .ok (.iconst 1, 1) := by decide +kernel
theorem dL_law_679 : decode cL_law 679 = .ok (.iadd, 1) := by decide +kernel
theorem dL_law_680 : decode cL_law 680 = .ok (.iaload, 1) := by decide +kernel
theorem dL_law_681 : decode cL_law 681 = .ok (.invokevirtual 168, 3) := by decide +kernel
theorem dL_law_684 : decode cL_law 684 = .ok (.istore 7, 2) := by decide +kernel
theorem dL_law_686 : decode cL_law 686 = .ok (.aload_n 2, 1) := by decide +kernel
theorem dL_law_687 : decode cL_law 687 = .ok (.invokevirtual 146, 3) := by decide +kernel
theorem dL_law_690 : decode cL_law 690 = .ok (.iload 6, 2) := by decide +kernel
theorem dL_law_692 : decode cL_law 692 = .ok (.if_icmp .eq 5, 3) := by decide +kernel
theorem dL_law_695 : decode cL_law 695 = .ok (.iconst 0, 1) := by decide +kernel
theorem dL_law_696 : decode cL_law 696 = .ok (.ireturn, 1) := by decide +kernel
theorem dL_law_697 : decode cL_law 697 = .ok (.iload 6, 2) := by decide +kernel
theorem dL_law_699 : decode cL_law 699 = .ok (.ifCond .ne 15, 3) := by decide +kernel
theorem dL_law_702 : decode cL_law 702 = .ok (.aload_n 3, 1) := by decide +kernel
theorem dL_law_703 : decode cL_law 703 = .ok (.iconst 0, 1) := by decide +kernel
theorem dL_law_704 : decode cL_law 704 = .ok (.laload, 1) := by decide +kernel
theorem dL_law_705 : decode cL_law 705 = .ok (.iload 7, 2) := by decide +kernel
theorem dL_law_707 : decode cL_law 707 = .ok (.i2l, 1) := by decide +kernel
theorem dL_law_708 : decode cL_law 708 = .ok (.lcmp, 1) := by decide +kernel
theorem dL_law_709 : decode cL_law 709 = .ok (.ifCond .eq 5, 3) := by decide +kernel
theorem dL_law_712 : decode cL_law 712 = .ok (.iconst 0, 1) := by decide +kernel
theorem dL_law_713 : decode cL_law 713 = .ok (.ireturn, 1) := by decide +kernel
theorem dL_law_714 : decode cL_law 714 = .ok (.goto 1702, 3) := by decide +kernel
theorem dL_law_717 : decode cL_law 717 = .ok (.aload_n 1, 1) := by decide +kernel
theorem dL_law_718 : decode cL_law 718 = .ok (.aload_n 0, 1) := by decide +kernel
theorem dL_law_719 : decode cL_law 719 = .ok (.iload 5, 2) := by decide +kernel
theorem dL_law_721 : decode cL_law 721 = .ok (.iconst 1, 1) := by decide +kernel
theorem dL_law_722 : decode cL_law 722 = .ok (.iadd, 1) := by decide +kernel
theorem dL_law_723 : decode cL_law 723 = .ok (.iaload, 1) := by decide +kernel
theorem dL_law_724 : decode cL_law 724 = .ok (.aload_n 0, 1) := by decide +kernel
theorem dL_law_725 : decode cL_law 725 = .ok (.iload 5, 2) := by decide +kernel
theorem dL_law_727 : decode cL_law 727 = .ok (.iconst 2, 1) := by decide +kernel
theorem dL_law_728 : decode cL_law 728 = .ok (.iadd, 1) := by decide +kernel
theorem dL_law_729 : decode cL_law 729 = .ok (.iaload, 1) := by decide +kernel
theorem dL_law_730 : decode cL_law 730 = .ok (.aload_n 3, 1) := by decide +kernel
theorem dL_law_731 : decode cL_law 731 = .ok (.invokestatic 169, 3) := by decide +kernel
theorem dL_law_734 : decode cL_law 734 = .ok (.istore 6, 2) := by decide +kernel
theorem dL_law_736 : decode cL_law 736 = .ok (.aload_n 2, 1) := by decide +kernel
theorem dL_law_737 : decode cL_law 737 = .ok (.aload_n 0, 1) := by decide +kernel
theorem dL_law_738 : decode cL_law 738 = .ok (.iload 5, 2) := by decide +kernel
theorem dL_law_740 : decode cL_law 740 = .ok (.iconst 1, 1) := by decide +kernel
theorem dL_law_741 : decode cL_law 741 = .ok (.iadd, 1) := by decide +kernel
theorem dL_law_742 : decode cL_law 742 = .ok (.iaload, 1) := by decide +kernel
theorem dL_law_743 : decode cL_law 743 = .ok (.aload_n 0, 1) := by decide +kernel
theorem dL_law_744 : decode cL_law 744 = .ok (.iload 5, 2) := by decide +kernel
theorem dL_law_746 : decode cL_law 746 = .ok (.iconst 2, 1) := by decide +kernel
theorem dL_law_747 : decode cL_law 747 = .ok (.iadd, 1) := by decide +kernel
theorem dL_law_748 : decode cL_law 748 = .ok (.iaload, 1) := by decide +kernel
theorem dL_law_749 : decode cL_law 749 = .ok (.invokevirtual 171, 3) := by decide +kernel
theorem dL_law_752 : decode cL_law 752 = .ok (.istore 7, 2) := by decide +kernel
theorem dL_law_754 : decode cL_law 754 = .ok (.aload_n 2, 1) := by decide +kernel
theorem dL_law_755 : decode cL_law 755 = .ok (.invokevirtual 146, 3) := by decide +kernel
theorem dL_law_758 : decode cL_law 758 = .ok (.iload 6, 2) := by decide +kernel
theorem dL_law_760 : decode cL_law 760 = .ok (.if_icmp .eq 5, 3) := by decide +kernel
theorem dL_law_763 : decode cL_law 763 = .ok (.iconst 0, 1) := by decide +kernel
theorem dL_law_764 : decode cL_law 764 = .ok (.ireturn, 1) := by decide +kernel
theorem dL_law_765 : decode cL_law 765 = .ok (.iload 6, 2) := by decide +kernel
theorem dL_law_767 : decode cL_law 767 = .ok (.ifCond .ne 15, 3) := by decide +kernel
theorem dL_law_770 : decode cL_law 770 = .ok (.aload_n 3, 1) := by decide +kernel
theorem dL_law_771 : decode cL_law 771 = .ok (.iconst 0, 1) := by decide +kernel
theorem dL_law_772 : decode cL_law 772 = .ok (.laload, 1) := by decide +kernel
theorem dL_law_773 : decode cL_law 773 = .ok (.iload 7, 2) := by decide +kernel
theorem dL_law_775 : decode cL_law 775 = .ok (.i2l, 1) := by decide +kernel
theorem dL_law_776 : decode cL_law 776 = .ok (.lcmp, 1) := by decide +kernel
theorem dL_law_777 : decode cL_law 777 = .ok (.ifCond .eq 5, 3) := by decide +kernel
theorem dL_law_780 : decode cL_law 780 = .ok (.iconst 0, 1) := by decide +kernel
theorem dL_law_781 : decode cL_law 781 = .ok (.ireturn, 1) := by decide +kernel
theorem dL_law_782 : decode cL_law 782 = .ok (.goto 1634, 3) := by decide +kernel
theorem dL_law_785 : decode cL_law 785 = .ok (.aload_n 1, 1) := by decide +kernel
theorem dL_law_786 : decode cL_law 786 = .ok (.aload_n 0, 1) := by decide +kernel
theorem dL_law_787 : decode cL_law 787 = .ok (.iload 5, 2) := by decide +kernel
theorem dL_law_789 : decode cL_law 789 = .ok (.iconst 1, 1) := by decide +kernel
theorem dL_law_790 : decode cL_law 790 = .ok (.iadd, 1) := by decide +kernel
theorem dL_law_791 : decode cL_law 791 = .ok (.iaload, 1) := by decide +kernel
theorem dL_law_792 : decode cL_law 792 = .ok (.aload_n 0, 1) := by decide +kernel
theorem dL_law_793 : decode cL_law 793 = .ok (.iload 5, 2) := by decide +kernel
theorem dL_law_795 : decode cL_law 795 = .ok (.iconst 2, 1) := by decide +kernel
theorem dL_law_796 : decode cL_law 796 = .ok (.iadd, 1) := by decide +kernel
theorem dL_law_797 : decode cL_law 797 = .ok (.iaload, 1) := by decide +kernel
theorem dL_law_798 : decode cL_law 798 = .ok (.aload_n 3, 1) := by decide +kernel
theorem dL_law_799 : decode cL_law 799 = .ok (.invokestatic 172, 3) := by decide +kernel
theorem dL_law_802 : decode cL_law 802 = .ok (.istore 6, 2) := by decide +kernel
theorem dL_law_804 : decode cL_law 804 = .ok (.aload_n 2, 1) := by decide +kernel
theorem dL_law_805 : decode cL_law 805 = .ok (.aload_n 0, 1) := by decide +kernel
theorem dL_law_806 : decode cL_law 806 = .ok (.iload 5, 2) := by decide +kernel
theorem dL_law_808 : decode cL_law 808 = .ok (.iconst 1, 1) := by decide +kernel
theorem dL_law_809 : decode cL_law 809 = .ok (.iadd, 1) := by decide +kernel
theorem dL_law_810 : decode cL_law 810 = .ok (.iaload, 1) := by decide +kernel
theorem dL_law_811 : decode cL_law 811 = .ok (.aload_n 0, 1) := by decide +kernel
theorem dL_law_812 : decode cL_law 812 = .ok (.iload 5, 2) := by decide +kernel
theorem dL_law_814 : decode cL_law 814 = .ok (.iconst 2, 1) := by decide +kernel
theorem dL_law_815 : decode cL_law 815 = .ok (.iadd, 1) := by decide +kernel
theorem dL_law_816 : decode cL_law 816 = .ok (.iaload, 1) := by decide +kernel
theorem dL_law_817 : decode cL_law 817 = .ok (.invokevirtual 174, 3) := by decide +kernel
theorem dL_law_820 : decode cL_law 820 = .ok (.istore 7, 2) := by decide +kernel
theorem dL_law_822 : decode cL_law 822 = .ok (.aload_n 2, 1) := by decide +kernel
theorem dL_law_823 : decode cL_law 823 = .ok (.invokevirtual 146, 3) := by decide +kernel
theorem dL_law_826 : decode cL_law 826 = .ok (.iload 6, 2) := by decide +kernel
theorem dL_law_828 : decode cL_law 828 = .ok (.if_icmp .eq 5, 3) := by decide +kernel
theorem dL_law_831 : decode cL_law 831 = .ok (.iconst 0, 1) := by decide +kernel
theorem dL_law_832 : decode cL_law 832 = .ok (.ireturn, 1) := by decide +kernel
theorem dL_law_833 : decode cL_law 833 = .ok (.iload 6, 2) := by decide +kernel
theorem dL_law_835 : decode cL_law 835 = .ok (.ifCond .ne 15, 3) := by decide +kernel
theorem dL_law_838 : decode cL_law 838 = .ok (.aload_n 3, 1) := by decide +kernel
theorem dL_law_839 : decode cL_law 839 = .ok (.iconst 0, 1) := by decide +kernel
theorem dL_law_840 : decode cL_law 840 = .ok (.laload, 1) := by decide +kernel
theorem dL_law_841 : decode cL_law 841 = .ok (.iload 7, 2) := by decide +kernel
theorem dL_law_843 : decode cL_law 843 = .ok (.i2l, 1) := by decide +kernel
theorem dL_law_844 : decode cL_law 844 = .ok (.lcmp, 1) := by decide +kernel
theorem dL_law_845 : decode cL_law 845 = .ok (.ifCond .eq 5, 3) := by decide +kernel
theorem dL_law_848 : decode cL_law 848 = .ok (.iconst 0, 1) := by decide +kernel
theorem dL_law_849 : decode cL_law 849 = .ok (.ireturn, 1) := by decide +kernel
theorem dL_law_850 : decode cL_law 850 = .ok (.goto 1566, 3) := by decide +kernel
theorem dL_law_853 : decode cL_law 853 = .ok (.aload_n 1, 1) := by decide +kernel
theorem dL_law_854 : decode cL_law 854 = .ok (.invokevirtual 175, 3) := by decide +kernel
theorem dL_law_857 : decode cL_law 857 = .ok (.aload_n 2, 1) := by decide +kernel
theorem dL_law_858 : decode cL_law 858 = .ok (.invokevirtual 178, 3) := by decide +kernel
theorem dL_law_861 : decode cL_law 861 = .ok (.if_icmp .eq 1555, 3) := by decide +kernel
theorem dL_law_864 : decode cL_law 864 = .ok (.iconst 0, 1) := by decide +kernel
theorem dL_law_865 : decode cL_law 865 = .ok (.ireturn, 1) := by decide +kernel
theorem dL_law_866 : decode cL_law 866 = .ok (.aload_n 1, 1) := by decide +kernel
theorem dL_law_867 : decode cL_law 867 = .ok (.invokevirtual 179, 3) := by decide +kernel
theorem dL_law_870 : decode cL_law 870 = .ok (.aload_n 2, 1) := by decide +kernel
theorem dL_law_871 : decode cL_law 871 = .ok (.invokevirtual 182, 3) := by decide +kernel
theorem dL_law_874 : decode cL_law 874 = .ok (.if_icmp .eq 1542, 3) := by decide +kernel
theorem dL_law_877 : decode cL_law 877 = .ok (.iconst 0, 1) := by decide +kernel
theorem dL_law_878 : decode cL_law 878 = .ok (.ireturn, 1) := by decide +kernel
theorem dL_law_879 : decode cL_law 879 = .ok (.aload_n 1, 1) := by decide +kernel
theorem dL_law_880 : decode cL_law 880 = .ok (.aload_n 0, 1) := by decide +kernel
theorem dL_law_881 : decode cL_law 881 = .ok (.iload 5, 2) := by decide +kernel
theorem dL_law_883 : decode cL_law 883 = .ok (.iconst 1, 1) := by decide +kernel
theorem dL_law_884 : decode cL_law 884 = .ok (.iadd, 1) := by decide +kernel
theorem dL_law_885 : decode cL_law 885 = .ok (.iaload, 1) := by decide +kernel
theorem dL_law_886 : decode cL_law 886 = .ok (.aload_n 0, 1) := by decide +kernel
theorem dL_law_887 : decode cL_law 887 = .ok (.iload 5, 2) := by decide +kernel
theorem dL_law_889 : decode cL_law 889 = .ok (.iconst 2, 1) := by decide +kernel
theorem dL_law_890 : decode cL_law 890 = .ok (.iadd, 1) := by decide +kernel
theorem dL_law_891 : decode cL_law 891 = .ok (.iaload, 1) := by decide +kernel
theorem dL_law_892 : decode cL_law 892 = .ok (.ifCond .eq 7, 3) := by decide +kernel
theorem dL_law_895 : decode cL_law 895 = .ok (.iconst 1, 1) := by decide +kernel
theorem dL_law_896 : decode cL_law 896 = .ok (.goto 4, 3) := by decide +kernel
theorem dL_law_899 : decode cL_law 899 = .ok (.iconst 0, 1) := by decide +kernel
theorem dL_law_900 : decode cL_law 900 = .ok (.aload_n 3, 1) := by decide +kernel
theorem dL_law_901 : decode cL_law 901 = .ok (.invokestatic 183, 3) := by decide +kernel
theorem dL_law_904 : decode cL_law 904 = .ok (.istore 6, 2) := by decide +kernel
theorem dL_law_906 : decode cL_law 906 = .ok (.aload_n 2, 1) := by decide +kernel
theorem dL_law_907 : decode cL_law 907 = .ok (.aload_n 0, 1) := by decide +kernel
theorem dL_law_908 : decode cL_law 908 = .ok (.iload 5, 2) := by decide +kernel
theorem dL_law_910 : decode cL_law 910 = .ok (.iconst 1, 1) := by decide +kernel
theorem dL_law_911 : decode cL_law 911 = .ok (.iadd, 1) := by decide +kernel
theorem dL_law_912 : decode cL_law 912 = .ok (.iaload, 1) := by decide +kernel
theorem dL_law_913 : decode cL_law 913 = .ok (.aload_n 0, 1) := by decide +kernel
theorem dL_law_914 : decode cL_law 914 = .ok (.iload 5, 2) := by decide +kernel
theorem dL_law_916 : decode cL_law 916 = .ok (.iconst 2, 1) := by decide +kernel
theorem dL_law_917 : decode cL_law 917 = .ok (.iadd, 1) := by decide +kernel
theorem dL_law_918 : decode cL_law 918 = .ok (.iaload, 1) := by decide +kernel
theorem dL_law_919 : decode cL_law 919 = .ok (.ifCond .eq 7, 3) := by decide +kernel
theorem dL_law_922 : decode cL_law 922 = .ok (.iconst 1, 1) := by decide +kernel
theorem dL_law_923 : decode cL_law 923 = .ok (.goto 4, 3) := by decide +kernel
theorem dL_law_926 : decode cL_law 926 = .ok (.iconst 0, 1) := by decide +kernel
theorem dL_law_927 : decode cL_law 927 = .ok (.invokevirtual 186, 3) := by decide +kernel
theorem dL_law_930 : decode cL_law 930 = .ok (.istore 7, 2) := by decide +kernel
theorem dL_law_932 : decode cL_law 932 = .ok (.aload_n 2, 1) := by decide +kernel
theorem dL_law_933 : decode cL_law 933 = .ok (.invokevirtual 146, 3) := by decide +kernel
theorem dL_law_936 : decode cL_law 936 = .ok (.iload 6, 2) := by decide +kernel
theorem dL_law_938 : decode cL_law 938 = .ok (.if_icmp .eq 5, 3) := by decide +kernel
theorem dL_law_941 : decode cL_law 941 = .ok (.iconst 0, 1) := by decide +kernel
theorem dL_law_942 : decode cL_law 942 = .ok (.ireturn, 1) := by decide +kernel
theorem dL_law_943 : decode cL_law 943 = .ok (.iload 6, 2) := by decide +kernel
theorem dL_law_945 : decode cL_law 945 = .ok (.ifCond .ne 15, 3) := by decide +kernel
theorem dL_law_948 : decode cL_law 948 = .ok (.aload_n 3, 1) := by decide +kernel
theorem dL_law_949 : decode cL_law 949 = .ok (.iconst 0, 1) := by decide +kernel
theorem dL_law_950 : decode cL_law 950 = .ok (.laload, 1) := by decide +kernel
theorem dL_law_951 : decode cL_law 951 = .ok (.iload 7, 2) := by decide +kernel
theorem dL_law_953 : decode cL_law 953 = .ok (.i2l, 1) := by decide +kernel
theorem dL_law_954 : decode cL_law 954 = .ok (.lcmp, 1) := by decide +kernel
theorem dL_law_955 : decode cL_law 955 = .ok (.ifCond .eq 5, 3) := by decide +kernel
theorem dL_law_958 : decode cL_law 958 = .ok (.iconst 0, 1) := by decide +kernel
theorem dL_law_959 : decode cL_law 959 = .ok (.ireturn, 1) := by decide +kernel
theorem dL_law_960 : decode cL_law 960 = .ok (.goto 1456, 3) := by decide +kernel
theorem dL_law_963 : decode cL_law 963 = .ok (.aload_n 1, 1) := by decide +kernel
theorem dL_law_964 : decode cL_law 964 = .ok (.aload_n 3, 1) := by decide +kernel
theorem dL_law_965 : decode cL_law 965 = .ok (.invokestatic 187, 3) := by decide +kernel
theorem dL_law_968 : decode cL_law 968 = .ok (.istore 6, 2) := by decide +kernel
theorem dL_law_970 : decode cL_law 970 = .ok (.aload_n 2, 1) := by decide +kernel
theorem dL_law_971 : decode cL_law 971 = .ok (.invokevirtual 190, 3) := by decide +kernel
theorem dL_law_974 : decode cL_law 974 = .ok (.istore 7, 2) := by decide +kernel
theorem dL_law_976 : decode cL_law 976 = .ok (.aload_n 2, 1) := by decide +kernel
theorem dL_law_977 : decode cL_law 977 = .ok (.invokevirtual 146, 3) := by decide +kernel
theorem dL_law_980 : decode cL_law 980 = .ok (.iload 6, 2) := by decide +kernel
theorem dL_law_982 : decode cL_law 982 = .ok (.if_icmp .eq 5, 3) := by decide +kernel
theorem dL_law_985 : decode cL_law 985 = .ok (.iconst 0, 1) := by decide +kernel
theorem dL_law_986 : decode cL_law 986 = .ok (.ireturn, 1) := by decide +kernel
theorem dL_law_987 : decode cL_law 987 = .ok (.iload 6, 2) := by decide +kernel
theorem dL_law_989 : decode cL_law 989 = .ok (.ifCond .ne 15, 3) := by decide +kernel
theorem dL_law_992 : decode cL_law 992 = .ok (.aload_n 3, 1) := by decide +kernel
theorem dL_law_993 : decode cL_law 993 = .ok (.iconst 0, 1) := by decide +kernel
theorem dL_law_994 : decode cL_law 994 = .ok (.laload, 1) := by decide +kernel
theorem dL_law_995 : decode cL_law 995 = .ok (.iload 7, 2) := by decide +kernel
theorem dL_law_997 : decode cL_law 997 = .ok (.i2l, 1) := by decide +kernel
theorem dL_law_998 : decode cL_law 998 = .ok (.lcmp, 1) := by decide +kernel
theorem dL_law_999 : decode cL_law 999 = .ok (.ifCond .eq 5, 3) := by decide +kernel
theorem dL_law_1002 : decode cL_law 1002 = .ok (.iconst 0, 1) := by decide +kernel
theorem dL_law_1003 : decode cL_law 1003 = .ok (.ireturn, 1) := by decide +kernel
theorem dL_law_1004 : decode cL_law 1004 = .ok (.goto 1412, 3) := by decide +kernel
theorem dL_law_1007 : decode cL_law 1007 = .ok (.aload_n 1, 1) := by decide +kernel
theorem dL_law_1008 : decode cL_law 1008 = .ok (.aload_n 0, 1) := by decide +kernel
theorem dL_law_1009 : decode cL_law 1009 = .ok (.iload 5, 2) := by decide +kernel
theorem dL_law_1011 : decode cL_law 1011 = .ok (.iconst 1, 1) := by decide +kernel
theorem dL_law_1012 : decode cL_law 1012 = .ok (.iadd, 1) := by decide +kernel
theorem dL_law_1013 : decode cL_law 1013 = .ok (.iaload, 1) := by decide +kernel
theorem dL_law_1014 : decode cL_law 1014 = .ok (.aload_n 3, 1) := by decide +kernel
theorem dL_law_1015 : decode cL_law 1015 = .ok (.invokestatic 191, 3) := by decide +kernel
theorem dL_law_1018 : decode cL_law 1018 = .ok (.istore 6, 2) := by decide +kernel
theorem dL_law_1020 : decode cL_law 1020 = .ok (.aload_n 2, 1) := by decide +kernel
theorem dL_law_1021 : decode cL_law 1021 = .ok (.aload_n 0, 1) := by decide +kernel
theorem dL_law_1022 : decode cL_law 1022 = .ok (.iload 5, 2) := by decide +kernel
theorem dL_law_1024 : decode cL_law 1024 = .ok (.iconst 1, 1) := by decide +kernel
theorem dL_law_1025 : decode cL_law 1025 = .ok (.iadd, 1) := by decide +kernel
theorem dL_law_1026 : decode cL_law 1026 = .ok (.iaload, 1) := by decide +kernel
theorem dL_law_1027 : decode cL_law 1027 = .ok (.invokevirtual 193, 3) := by decide +kernel
theorem dL_law_1030 : decode cL_law 1030 = .ok (.istore 7, 2) := by decide +kernel
theorem dL_law_1032 : decode cL_law 1032 = .ok (.aload_n 2, 1) := by decide +kernel
theorem dL_law_1033 : decode cL_law 1033 = .ok (.invokevirtual 146, 3) := by decide +kernel
theorem dL_law_1036 : decode cL_law 1036 = .ok (.iload 6, 2) := by decide +kernel
theorem dL_law_1038 : decode cL_law 1038 = .ok (.if_icmp .eq 5, 3) := by decide +kernel
theorem dL_law_1041 : decode cL_law 1041 = .ok (.iconst 0, 1) := by decide +kernel
theorem dL_law_1042 : decode cL_law 1042 = .ok (.ireturn, 1) := by decide +kernel
theorem dL_law_1043 : decode cL_law 1043 = .ok (.iload 6, 2) := by decide +kernel
theorem dL_law_1045 : decode cL_law 1045 = .ok (.ifCond .ne 15, 3) := by decide +kernel
theorem dL_law_1048 : decode cL_law 1048 = .ok (.aload_n 3, 1) := by decide +kernel
theorem dL_law_1049 : decode cL_law 1049 = .ok (.iconst 0, 1) := by decide +kernel
theorem dL_law_1050 : decode cL_law 1050 = .ok (.laload, 1) := by decide +kernel
theorem dL_law_1051 : decode cL_law 1051 = .ok (.iload 7, 2) := by decide +kernel
theorem dL_law_1053 : decode cL_law 1053 = .ok (.i2l, 1) := by decide +kernel
theorem dL_law_1054 : decode cL_law 1054 = .ok (.lcmp, 1) := by decide +kernel
theorem dL_law_1055 : decode cL_law 1055 = .ok (.ifCond .eq 5, 3) := by decide +kernel
theorem dL_law_1058 : decode cL_law 1058 = .ok (.iconst 0, 1) := by decide +kernel
theorem dL_law_1059 : decode cL_law 1059 = .ok (.ireturn, 1) := by decide +kernel
theorem dL_law_1060 : decode cL_law 1060 = .ok (.goto 1356, 3) := by decide +kernel
theorem dL_law_1063 : decode cL_law 1063 = .ok (.aload_n 1, 1) := by decide +kernel
theorem dL_law_1064 : decode cL_law 1064 = .ok (.invokevirtual 194, 3) := by decide +kernel
theorem dL_law_1067 : decode cL_law 1067 = .ok (.aload_n 2, 1) := by decide +kernel
theorem dL_law_1068 : decode cL_law 1068 = .ok (.invokevirtual 197, 3) := by decide +kernel
theorem dL_law_1071 : decode cL_law 1071 = .ok (.if_icmp .eq 1345, 3) := by decide +kernel
theorem dL_law_1074 : decode cL_law 1074 = .ok (.iconst 0, 1) := by decide +kernel
theorem dL_law_1075 : decode cL_law 1075 = .ok (.ireturn, 1) := by decide +kernel
theorem dL_law_1076 : decode cL_law 1076 = .ok (.aload_n 1, 1) := by decide +kernel
theorem dL_law_1077 : decode cL_law 1077 = .ok (.aload_n 0, 1) := by decide +kernel
theorem dL_law_1078 : decode cL_law 1078 = .ok (.iload 5, 2) := by decide +kernel
theorem dL_law_1080 : decode cL_law 1080 = .ok (.iconst 1, 1) := by decide +kernel
theorem dL_law_1081 : decode cL_law 1081 = .ok (.iadd, 1) := by decide +kernel
theorem dL_law_1082 : decode cL_law 1082 = .ok (.iaload, 1) := by decide +kernel
theorem dL_law_1083 : decode cL_law 1083 = .ok (.aload_n 3, 1) := by decide +kernel
theorem dL_law_1084 : decode cL_law 1084 = .ok (.invokestatic 198, 3) := by decide +kernel
theorem dL_law_1087 : decode cL_law 1087 = .ok (.istore 6, 2) := by decide +kernel
theorem dL_law_1089 : decode cL_law 1089 = .ok (.aload_n 2, 1) := by decide +kernel
theorem dL_law_1090 : decode cL_law 1090 = .ok (.aload_n 0, 1) := by decide +kernel
theorem dL_law_1091 : decode cL_law 1091 = .ok (.iload 5, 2) := by decide +kernel
theorem dL_law_1093 : decode cL_law 1093 = .ok (.iconst 1, 1) := by decide +kernel
theorem dL_law_1094 : decode cL_law 1094 = .ok (.iadd, 1) := by decide +kernel
theorem dL_law_1095 : decode cL_law 1095 = .ok (.iaload, 1) := by decide +kernel
theorem dL_law_1096 : decode cL_law 1096 = .ok (.invokevirtual 200, 3) := by decide +kernel
theorem dL_law_1099 : decode cL_law 1099 = .ok (.istore 7, 2) := by decide +kernel
theorem dL_law_1101 : decode cL_law 1101 = .ok (.aload_n 2, 1) := by decide +kernel
theorem dL_law_1102 : decode cL_law 1102 = .ok (.invokevirtual 146, 3) := by decide +kernel
theorem dL_law_1105 : decode cL_law 1105 = .ok (.iload 6, 2) := by decide +kernel
theorem dL_law_1107 : decode cL_law 1107 = .ok (.if_icmp .eq 5, 3) := by decide +kernel
theorem dL_law_1110 : decode cL_law 1110 = .ok (.iconst 0, 1) := by decide +kernel
theorem dL_law_1111 : decode cL_law 1111 = .ok (.ireturn, 1) := by decide +kernel
theorem dL_law_1112 : decode cL_law 1112 = .ok (.iload 6, 2) := by decide +kernel
theorem dL_law_1114 : decode cL_law 1114 = .ok (.ifCond .ne 15, 3) := by decide +kernel
theorem dL_law_1117 : decode cL_law 1117 = .ok (.aload_n 3, 1) := by decide +kernel
theorem dL_law_1118 : decode cL_law 1118 = .ok (.iconst 0, 1) := by decide +kernel
theorem dL_law_1119 : decode cL_law 1119 = .ok (.laload, 1) := by decide +kernel
theorem dL_law_1120 : decode cL_law 1120 = .ok (.iload 7, 2) := by decide +kernel
theorem dL_law_1122 : decode cL_law 1122 = .ok (.i2l, 1) := by decide +kernel
theorem dL_law_1123 : decode cL_law 1123 = .ok (.lcmp, 1) := by decide +kernel
theorem dL_law_1124 : decode cL_law 1124 = .ok (.ifCond .eq 5, 3) := by decide +kernel
theorem dL_law_1127 : decode cL_law 1127 = .ok (.iconst 0, 1) := by decide +kernel
theorem dL_law_1128 : decode cL_law 1128 = .ok (.ireturn, 1) := by decide +kernel
theorem dL_law_1129 : decode cL_law 1129 = .ok (.goto 1287, 3) := by decide +kernel
theorem dL_law_1132 : decode cL_law 1132 = .ok (.aload_n 1, 1) := by decide +kernel
theorem dL_law_1133 : decode cL_law 1133 = .ok (.aload_n 0, 1) := by decide +kernel
theorem dL_law_1134 : decode cL_law 1134 = .ok (.iload 5, 2) := by decide +kernel
theorem dL_law_1136 : decode cL_law 1136 = .ok (.iconst 1, 1) := by decide +kernel
theorem dL_law_1137 : decode cL_law 1137 = .ok (.iadd, 1) := by decide +kernel
theorem dL_law_1138 : decode cL_law 1138 = .ok (.iaload, 1) := by decide +kernel
theorem dL_law_1139 : decode cL_law 1139 = .ok (.aload_n 3, 1) := by decide +kernel
theorem dL_law_1140 : decode cL_law 1140 = .ok (.invokestatic 201, 3) := by decide +kernel
theorem dL_law_1143 : decode cL_law 1143 = .ok (.istore 6, 2) := by decide +kernel
theorem dL_law_1145 : decode cL_law 1145 = .ok (.aload_n 2, 1) := by decide +kernel
theorem dL_law_1146 : decode cL_law 1146 = .ok (.aload_n 0, 1) := by decide +kernel
theorem dL_law_1147 : decode cL_law 1147 = .ok (.iload 5, 2) := by decide +kernel
theorem dL_law_1149 : decode cL_law 1149 = .ok (.iconst 1, 1) := by decide +kernel
theorem dL_law_1150 : decode cL_law 1150 = .ok (.iadd, 1) := by decide +kernel
theorem dL_law_1151 : decode cL_law 1151 = .ok (.iaload, 1) := by decide +kernel
theorem dL_law_1152 : decode cL_law 1152 = .ok (.invokevirtual 203, 3) := by decide +kernel
theorem dL_law_1155 : decode cL_law 1155 = .ok (.istore 7, 2) := by decide +kernel
theorem dL_law_1157 : decode cL_law 1157 = .ok (.aload_n 2, 1) := by decide +kernel
theorem dL_law_1158 : decode cL_law 1158 = .ok (.invokevirtual 146, 3) := by decide +kernel
theorem dL_law_1161 : decode cL_law 1161 = .ok (.iload 6, 2) := by decide +kernel
theorem dL_law_1163 : decode cL_law 1163 = .ok (.if_icmp .eq 5, 3) := by decide +kernel
theorem dL_law_1166 : decode cL_law 1166 = .ok (.iconst 0, 1) := by decide +kernel
theorem dL_law_1167 : decode cL_law 1167 = .ok (.ireturn, 1) := by decide +kernel
theorem dL_law_1168 : decode cL_law 1168 = .ok (.iload 6, 2) := by decide +kernel
theorem dL_law_1170 : decode cL_law 1170 = .ok (.ifCond .ne 15, 3) := by decide +kernel
theorem dL_law_1173 : decode cL_law 1173 = .ok (.aload_n 3, 1) := by decide +kernel
theorem dL_law_1174 : decode cL_law 1174 = .ok (.iconst 0, 1) := by decide +kernel
theorem dL_law_1175 : decode cL_law 1175 = .ok (.laload, 1) := by decide +kernel
theorem dL_law_1176 : decode cL_law 1176 = .ok (.iload 7, 2) := by decide +kernel
theorem dL_law_1178 : decode cL_law 1178 = .ok (.i2l, 1) := by decide +kernel
theorem dL_law_1179 : decode cL_law 1179 = .ok (.lcmp, 1) := by decide +kernel
theorem dL_law_1180 : decode cL_law 1180 = .ok (.ifCond .eq 5, 3) := by decide +kernel
theorem dL_law_1183 : decode cL_law 1183 = .ok (.iconst 0, 1) := by decide +kernel
theorem dL_law_1184 : decode cL_law 1184 = .ok (.ireturn, 1) := by decide +kernel
theorem dL_law_1185 : decode cL_law 1185 = .ok (.goto 1231, 3) := by decide +kernel
theorem dL_law_1188 : decode cL_law 1188 = .ok (.aload_n 1, 1) := by decide +kernel
theorem dL_law_1189 : decode cL_law 1189 = .ok (.aload_n 0, 1) := by decide +kernel
theorem dL_law_1190 : decode cL_law 1190 = .ok (.iload 5, 2) := by decide +kernel
theorem dL_law_1192 : decode cL_law 1192 = .ok (.iconst 1, 1) := by decide +kernel
theorem dL_law_1193 : decode cL_law 1193 = .ok (.iadd, 1) := by decide +kernel
theorem dL_law_1194 : decode cL_law 1194 = .ok (.iaload, 1) := by decide +kernel
theorem dL_law_1195 : decode cL_law 1195 = .ok (.aload_n 3, 1) := by decide +kernel
theorem dL_law_1196 : decode cL_law 1196 = .ok (.invokestatic 204, 3) := by decide +kernel
theorem dL_law_1199 : decode cL_law 1199 = .ok (.istore 6, 2) := by decide +kernel
theorem dL_law_1201 : decode cL_law 1201 = .ok (.aload_n 2, 1) := by decide +kernel
theorem dL_law_1202 : decode cL_law 1202 = .ok (.aload_n 0, 1) := by decide +kernel
theorem dL_law_1203 : decode cL_law 1203 = .ok (.iload 5, 2) := by decide +kernel
theorem dL_law_1205 : decode cL_law 1205 = .ok (.iconst 1, 1) := by decide +kernel
theorem dL_law_1206 : decode cL_law 1206 = .ok (.iadd, 1) := by decide +kernel
theorem dL_law_1207 : decode cL_law 1207 = .ok (.iaload, 1) := by decide +kernel
theorem dL_law_1208 : decode cL_law 1208 = .ok (.invokevirtual 206, 3) := by decide +kernel
theorem dL_law_1211 : decode cL_law 1211 = .ok (.istore 7, 2) := by decide +kernel
theorem dL_law_1213 : decode cL_law 1213 = .ok (.aload_n 2, 1) := by decide +kernel
theorem dL_law_1214 : decode cL_law 1214 = .ok (.invokevirtual 146, 3) := by decide +kernel
theorem dL_law_1217 : decode cL_law 1217 = .ok (.iload 6, 2) := by decide +kernel
theorem dL_law_1219 : decode cL_law 1219 = .ok (.if_icmp .eq 5, 3) := by decide +kernel
theorem dL_law_1222 : decode cL_law 1222 = .ok (.iconst 0, 1) := by decide +kernel
theorem dL_law_1223 : decode cL_law 1223 = .ok (.ireturn, 1) := by decide +kernel
theorem dL_law_1224 : decode cL_law 1224 = .ok (.iload 6, 2) := by decide +kernel
theorem dL_law_1226 : decode cL_law 1226 = .ok (.ifCond .ne 15, 3) := by decide +kernel
theorem dL_law_1229 : decode cL_law 1229 = .ok (.aload_n 3, 1) := by decide +kernel
theorem dL_law_1230 : decode cL_law 1230 = .ok (.iconst 0, 1) := by decide +kernel
theorem dL_law_1231 : decode cL_law 1231 = .ok (.laload, 1) := by decide +kernel
theorem dL_law_1232 : decode cL_law 1232 = .ok (.iload 7, 2) := by decide +kernel
theorem dL_law_1234 : decode cL_law 1234 = .ok (.i2l, 1) := by decide +kernel
theorem dL_law_1235 : decode cL_law 1235 = .ok (.lcmp, 1) := by decide +kernel
theorem dL_law_1236 : decode cL_law 1236 = .ok (.ifCond .eq 5, 3) := by decide +kernel
theorem dL_law_1239 : decode cL_law 1239 = .ok (.iconst 0, 1) := by decide +kernel
theorem dL_law_1240 : decode cL_law 1240 = .ok (.ireturn, 1) := by decide +kernel
theorem dL_law_1241 : decode cL_law 1241 = .ok (.goto 1175, 3) := by decide +kernel
theorem dL_law_1244 : decode cL_law 1244 = .ok (.aload_n 1, 1) := by decide +kernel
theorem dL_law_1245 : decode cL_law 1245 = .ok (.aload_n 0, 1) := by decide +kernel
theorem dL_law_1246 : decode cL_law 1246 = .ok (.iload 5, 2) := by decide +kernel
theorem dL_law_1248 : decode cL_law 1248 = .ok (.iconst 1, 1) := by decide +kernel
theorem dL_law_1249 : decode cL_law 1249 = .ok (.iadd, 1) := by decide +kernel
theorem dL_law_1250 : decode cL_law 1250 = .ok (.iaload, 1) := by decide +kernel
theorem dL_law_1251 : decode cL_law 1251 = .ok (.aload_n 3, 1) := by decide +kernel
theorem dL_law_1252 : decode cL_law 1252 = .ok (.invokestatic 207, 3) := by decide +kernel
theorem dL_law_1255 : decode cL_law 1255 = .ok (.istore 6, 2) := by decide +kernel
theorem dL_law_1257 : decode cL_law 1257 = .ok (.aload_n 2, 1) := by decide +kernel
theorem dL_law_1258 : decode cL_law 1258 = .ok (.aload_n 0, 1) := by decide +kernel
theorem dL_law_1259 : decode cL_law 1259 = .ok (.iload 5, 2) := by decide +kernel
theorem dL_law_1261 : decode cL_law 1261 = .ok (.iconst 1, 1) := by decide +kernel
theorem dL_law_1262 : decode cL_law 1262 = .ok (.iadd, 1) := by decide +kernel
theorem dL_law_1263 : decode cL_law 1263 = .ok (.iaload, 1) := by decide +kernel
theorem dL_law_1264 : decode cL_law 1264 = .ok (.invokevirtual 209, 3) := by decide +kernel
theorem dL_law_1267 : decode cL_law 1267 = .ok (.istore 7, 2) := by decide +kernel
theorem dL_law_1269 : decode cL_law 1269 = .ok (.aload_n 2, 1) := by decide +kernel
theorem dL_law_1270 : decode cL_law 1270 = .ok (.invokevirtual 146, 3) := by decide +kernel
theorem dL_law_1273 : decode cL_law 1273 = .ok (.iload 6, 2) := by decide +kernel
theorem dL_law_1275 : decode cL_law 1275 = .ok (.if_icmp .eq 5, 3) := by decide +kernel
theorem dL_law_1278 : decode cL_law 1278 = .ok (.iconst 0, 1) := by decide +kernel
theorem dL_law_1279 : decode cL_law 1279 = .ok (.ireturn, 1) := by decide +kernel
theorem dL_law_1280 : decode cL_law 1280 = .ok (.iload 6, 2) := by decide +kernel
theorem dL_law_1282 : decode cL_law 1282 = .ok (.ifCond .ne 15, 3) := by decide +kernel
theorem dL_law_1285 : decode cL_law 1285 = .ok (.aload_n 3, 1) := by decide +kernel
theorem dL_law_1286 : decode cL_law 1286 = .ok (.iconst 0, 1) := by decide +kernel
theorem dL_law_1287 : decode cL_law 1287 = .ok (.laload, 1) := by decide +kernel
theorem dL_law_1288 : decode cL_law 1288 = .ok (.iload 7, 2) := by decide +kernel
theorem dL_law_1290 : decode cL_law 1290 = .ok (.i2l, 1) := by decide +kernel
theorem dL_law_1291 : decode cL_law 1291 = .ok (.lcmp, 1) := by decide +kernel
theorem dL_law_1292 : decode cL_law 1292 = .ok (.ifCond .eq 5, 3) := by decide +kernel
theorem dL_law_1295 : decode cL_law 1295 = .ok (.iconst 0, 1) := by decide +kernel
theorem dL_law_1296 : decode cL_law 1296 = .ok (.ireturn, 1) := by decide +kernel
theorem dL_law_1297 : decode cL_law 1297 = .ok (.goto 1119, 3) := by decide +kernel
theorem dL_law_1300 : decode cL_law 1300 = .ok (.aload_n 1, 1) := by decide +kernel
theorem dL_law_1301 : decode cL_law 1301 = .ok (.aload_n 0, 1) := by decide +kernel
theorem dL_law_1302 : decode cL_law 1302 = .ok (.iload 5, 2) := by decide +kernel
theorem dL_law_1304 : decode cL_law 1304 = .ok (.iconst 1, 1) := by decide +kernel
theorem dL_law_1305 : decode cL_law 1305 = .ok (.iadd, 1) := by decide +kernel
theorem dL_law_1306 : decode cL_law 1306 = .ok (.iaload, 1) := by decide +kernel
theorem dL_law_1307 : decode cL_law 1307 = .ok (.ifCond .eq 7, 3) := by decide +kernel
theorem dL_law_1310 : decode cL_law 1310 = .ok (.iconst 1, 1) := by decide +kernel
theorem dL_law_1311 : decode cL_law 1311 = .ok (.goto 4, 3) := by decide +kernel
theorem dL_law_1314 : decode cL_law 1314 = .ok (.iconst 0, 1) := by decide +kernel
theorem dL_law_1315 : decode cL_law 1315 = .ok (.invokevirtual 210, 3) := by decide +kernel
theorem dL_law_1318 : decode cL_law 1318 = .ok (.aload_n 2, 1) := by decide +kernel
theorem dL_law_1319 : decode cL_law 1319 = .ok (.aload_n 0, 1) := by decide +kernel
theorem dL_law_1320 : decode cL_law 1320 = .ok (.iload 5, 2) := by decide +kernel
theorem dL_law_1322 : decode cL_law 1322 = .ok (.iconst 1, 1) := by decide +kernel
theorem dL_law_1323 : decode cL_law 1323 = .ok (.iadd, 1) := by decide +kernel
theorem dL_law_1324 : decode cL_law 1324 = .ok (.iaload, 1) := by decide +kernel
theorem dL_law_1325 : decode cL_law 1325 = .ok (.ifCond .eq 7, 3) := by decide +kernel
theorem dL_law_1328 : decode cL_law 1328 = .ok (.iconst 1, 1) := by decide +kernel
theorem dL_law_1329 : decode cL_law 1329 = .ok (.goto 4, 3) := by decide +kernel
theorem dL_law_1332 : decode cL_law 1332 = .ok (.iconst 0, 1) := by decide +kernel
theorem dL_law_1333 : decode cL_law 1333 = .ok (.invokevirtual 214, 3) := by decide +kernel
theorem dL_law_1336 : decode cL_law 1336 = .ok (.if_icmp .eq 1080, 3) := by decide +kernel
theorem dL_law_1339 : decode cL_law 1339 = .ok (.iconst 0, 1) := by decide +kernel
theorem dL_law_1340 : decode cL_law 1340 = .ok (.ireturn, 1) := by decide +kernel
theorem dL_law_1341 : decode cL_law 1341 = .ok (.aload_n 1, 1) := by decide +kernel
theorem dL_law_1342 : decode cL_law 1342 = .ok (.aload_n 0, 1) := by decide +kernel
theorem dL_law_1343 : decode cL_law 1343 = .ok (.iload 5, 2) := by decide +kernel
theorem dL_law_1345 : decode cL_law 1345 = .ok (.iconst 1, 1) := by decide +kernel
theorem dL_law_1346 : decode cL_law 1346 = .ok (.iadd, 1) := by decide +kernel
theorem dL_law_1347 : decode cL_law 1347 = .ok (.iaload, 1) := by decide +kernel
theorem dL_law_1348 : decode cL_law 1348 = .ok (.aload_n 0, 1) := by decide +kernel
theorem dL_law_1349 : decode cL_law 1349 = .ok (.iload 5, 2) := by decide +kernel
theorem dL_law_1351 : decode cL_law 1351 = .ok (.iconst 2, 1) := by decide +kernel
theorem dL_law_1352 : decode cL_law 1352 = .ok (.iadd, 1) := by decide +kernel
theorem dL_law_1353 : decode cL_law 1353 = .ok (.iaload, 1) := by decide +kernel
theorem dL_law_1354 : decode cL_law 1354 = .ok (.aload_n 3, 1) := by decide +kernel
theorem dL_law_1355 : decode cL_law 1355 = .ok (.invokestatic 215, 3) := by decide +kernel
theorem dL_law_1358 : decode cL_law 1358 = .ok (.istore 6, 2) := by decide +kernel
theorem dL_law_1360 : decode cL_law 1360 = .ok (.aload_n 2, 1) := by decide +kernel
theorem dL_law_1361 : decode cL_law 1361 = .ok (.aload_n 0, 1) := by decide +kernel
theorem dL_law_1362 : decode cL_law 1362 = .ok (.iload 5, 2) := by decide +kernel
theorem dL_law_1364 : decode cL_law 1364 = .ok (.iconst 1, 1) := by decide +kernel
theorem dL_law_1365 : decode cL_law 1365 = .ok (.iadd, 1) := by decide +kernel
theorem dL_law_1366 : decode cL_law 1366 = .ok (.iaload, 1) := by decide +kernel
theorem dL_law_1367 : decode cL_law 1367 = .ok (.aload_n 0, 1) := by decide +kernel
theorem dL_law_1368 : decode cL_law 1368 = .ok (.iload 5, 2) := by decide +kernel
theorem dL_law_1370 : decode cL_law 1370 = .ok (.iconst 2, 1) := by decide +kernel
theorem dL_law_1371 : decode cL_law 1371 = .ok (.iadd, 1) := by decide +kernel
theorem dL_law_1372 : decode cL_law 1372 = .ok (.iaload, 1) := by decide +kernel
theorem dL_law_1373 : decode cL_law 1373 = .ok (.invokevirtual 217, 3) := by decide +kernel
theorem dL_law_1376 : decode cL_law 1376 = .ok (.istore 7, 2) := by decide +kernel
theorem dL_law_1378 : decode cL_law 1378 = .ok (.aload_n 2, 1) := by decide +kernel
theorem dL_law_1379 : decode cL_law 1379 = .ok (.invokevirtual 146, 3) := by decide +kernel
theorem dL_law_1382 : decode cL_law 1382 = .ok (.iload 6, 2) := by decide +kernel
theorem dL_law_1384 : decode cL_law 1384 = .ok (.if_icmp .eq 5, 3) := by decide +kernel
theorem dL_law_1387 : decode cL_law 1387 = .ok (.iconst 0, 1) := by decide +kernel
theorem dL_law_1388 : decode cL_law 1388 = .ok (.ireturn, 1) := by decide +kernel
theorem dL_law_1389 : decode cL_law 1389 = .ok (.iload 6, 2) := by decide +kernel
theorem dL_law_1391 : decode cL_law 1391 = .ok (.ifCond .ne 15, 3) := by decide +kernel
theorem dL_law_1394 : decode cL_law 1394 = .ok (.aload_n 3, 1) := by decide +kernel
theorem dL_law_1395 : decode cL_law 1395 = .ok (.iconst 0, 1) := by decide +kernel
theorem dL_law_1396 : decode cL_law 1396 = .ok (.laload, 1) := by decide +kernel
theorem dL_law_1397 : decode cL_law 1397 = .ok (.iload 7, 2) := by decide +kernel
theorem dL_law_1399 : decode cL_law 1399 = .ok (.i2l, 1) := by decide +kernel
theorem dL_law_1400 : decode cL_law 1400 = .ok (.lcmp, 1) := by decide +kernel
theorem dL_law_1401 : decode cL_law 1401 = .ok (.ifCond .eq 5, 3) := by decide +kernel
theorem dL_law_1404 : decode cL_law 1404 = .ok (.iconst 0, 1) := by decide +kernel
theorem dL_law_1405 : decode cL_law 1405 = .ok (.ireturn, 1) := by decide +kernel
theorem dL_law_1406 : decode cL_law 1406 = .ok (.goto 1010, 3) := by decide +kernel
theorem dL_law_1409 : decode cL_law 1409 = .ok (.aload_n 1, 1) := by decide +kernel
theorem dL_law_1410 : decode cL_law 1410 = .ok (.aload_n 3, 1) := by decide +kernel
theorem dL_law_1411 : decode cL_law 1411 = .ok (.invokestatic 218, 3) := by decide +kernel
theorem dL_law_1414 : decode cL_law 1414 = .ok (.istore 6, 2) := by decide +kernel
theorem dL_law_1416 : decode cL_law 1416 = .ok (.aload_n 2, 1) := by decide +kernel
theorem dL_law_1417 : decode cL_law 1417 = .ok (.invokevirtual 220, 3) := by decide +kernel
theorem dL_law_1420 : decode cL_law 1420 = .ok (.istore 7, 2) := by decide +kernel
theorem dL_law_1422 : decode cL_law 1422 = .ok (.aload_n 2, 1) := by decide +kernel
theorem dL_law_1423 : decode cL_law 1423 = .ok (.invokevirtual 146, 3) := by decide +kernel
theorem dL_law_1426 : decode cL_law 1426 = .ok (.iload 6, 2) := by decide +kernel
theorem dL_law_1428 : decode cL_law 1428 = .ok (.if_icmp .eq 5, 3) := by decide +kernel
theorem dL_law_1431 : decode cL_law 1431 = .ok (.iconst 0, 1) := by decide +kernel
theorem dL_law_1432 : decode cL_law 1432 = .ok (.ireturn, 1) := by decide +kernel
theorem dL_law_1433 : decode cL_law 1433 = .ok (.iload 6, 2) := by decide +kernel
theorem dL_law_1435 : decode cL_law 1435 = .ok (.ifCond .ne 15, 3) := by decide +kernel
theorem dL_law_1438 : decode cL_law 1438 = .ok (.aload_n 3, 1) := by decide +kernel
theorem dL_law_1439 : decode cL_law 1439 = .ok (.iconst 0, 1) := by decide +kernel
theorem dL_law_1440 : decode cL_law 1440 = .ok (.laload, 1) := by decide +kernel
theorem dL_law_1441 : decode cL_law 1441 = .ok (.iload 7, 2) := by decide +kernel
theorem dL_law_1443 : decode cL_law 1443 = .ok (.i2l, 1) := by decide +kernel
theorem dL_law_1444 : decode cL_law 1444 = .ok (.lcmp, 1) := by decide +kernel
theorem dL_law_1445 : decode cL_law 1445 = .ok (.ifCond .eq 5, 3) := by decide +kernel
theorem dL_law_1448 : decode cL_law 1448 = .ok (.iconst 0, 1) := by decide +kernel
theorem dL_law_1449 : decode cL_law 1449 = .ok (.ireturn, 1) := by decide +kernel
theorem dL_law_1450 : decode cL_law 1450 = .ok (.goto 966, 3) := by decide +kernel
theorem dL_law_1453 : decode cL_law 1453 = .ok (.aload_n 1, 1) := by decide +kernel
theorem dL_law_1454 : decode cL_law 1454 = .ok (.aload_n 0, 1) := by decide +kernel
theorem dL_law_1455 : decode cL_law 1455 = .ok (.iload 5, 2) := by decide +kernel
theorem dL_law_1457 : decode cL_law 1457 = .ok (.iconst 1, 1) := by decide +kernel
theorem dL_law_1458 : decode cL_law 1458 = .ok (.iadd, 1) := by decide +kernel
theorem dL_law_1459 : decode cL_law 1459 = .ok (.iaload, 1) := by decide +kernel
theorem dL_law_1460 : decode cL_law 1460 = .ok (.aload_n 0, 1) := by decide +kernel
theorem dL_law_1461 : decode cL_law 1461 = .ok (.iload 5, 2) := by decide +kernel
theorem dL_law_1463 : decode cL_law 1463 = .ok (.iconst 2, 1) := by decide +kernel
theorem dL_law_1464 : decode cL_law 1464 = .ok (.iadd, 1) := by decide +kernel
theorem dL_law_1465 : decode cL_law 1465 = .ok (.iaload, 1) := by decide +kernel
theorem dL_law_1466 : decode cL_law 1466 = .ok (.aload_n 3, 1) := by decide +kernel
theorem dL_law_1467 : decode cL_law 1467 = .ok (.invokestatic 221, 3) := by decide +kernel
theorem dL_law_1470 : decode cL_law 1470 = .ok (.istore 6, 2) := by decide +kernel
theorem dL_law_1472 : decode cL_law 1472 = .ok (.aload_n 2, 1) := by decide +kernel
theorem dL_law_1473 : decode cL_law 1473 = .ok (.aload_n 0, 1) := by decide +kernel
theorem dL_law_1474 : decode cL_law 1474 = .ok (.iload 5, 2) := by decide +kernel
theorem dL_law_1476 : decode cL_law 1476 = .ok (.iconst 1, 1) := by decide +kernel
theorem dL_law_1477 : decode cL_law 1477 = .ok (.iadd, 1) := by decide +kernel
theorem dL_law_1478 : decode cL_law 1478 = .ok (.iaload, 1) := by decide +kernel
theorem dL_law_1479 : decode cL_law 1479 = .ok (.aload_n 0, 1) := by decide +kernel
theorem dL_law_1480 : decode cL_law 1480 = .ok (.iload 5, 2) := by decide +kernel
theorem dL_law_1482 : decode cL_law 1482 = .ok (.iconst 2, 1) := by decide +kernel
theorem dL_law_1483 : decode cL_law 1483 = .ok (.iadd, 1) := by decide +kernel
theorem dL_law_1484 : decode cL_law 1484 = .ok (.iaload, 1) := by decide +kernel
theorem dL_law_1485 : decode cL_law 1485 = .ok (.invokevirtual 223, 3) := by decide +kernel
theorem dL_law_1488 : decode cL_law 1488 = .ok (.istore 7, 2) := by decide +kernel
theorem dL_law_1490 : decode cL_law 1490 = .ok (.aload_n 2, 1) := by decide +kernel
theorem dL_law_1491 : decode cL_law 1491 = .ok (.invokevirtual 146, 3) := by decide +kernel
theorem dL_law_1494 : decode cL_law 1494 = .ok (.iload 6, 2) := by decide +kernel
theorem dL_law_1496 : decode cL_law 1496 = .ok (.if_icmp .eq 5, 3) := by decide +kernel
theorem dL_law_1499 : decode cL_law 1499 = .ok (.iconst 0, 1) := by decide +kernel
theorem dL_law_1500 : decode cL_law 1500 = .ok (.ireturn, 1) := by decide +kernel
theorem dL_law_1501 : decode cL_law 1501 = .ok (.iload 6, 2) := by decide +kernel
theorem dL_law_1503 : decode cL_law 1503 = .ok (.ifCond .ne 22, 3) := by decide +kernel
theorem dL_law_1506 : decode cL_law 1506 = .ok (.aload_n 3, 1) := by decide +kernel
theorem dL_law_1507 : decode cL_law 1507 = .ok (.iconst 0, 1) := by decide +kernel
theorem dL_law_1508 : decode cL_law 1508 = .ok (.laload, 1) := by decide +kernel
theorem dL_law_1509 : decode cL_law 1509 = .ok (.iload 7, 2) := by decide +kernel
theorem dL_law_1511 : decode cL_law 1511 = .ok (.ifCond .eq 7, 3) := by decide +kernel
theorem dL_law_1514 : decode cL_law 1514 = .ok (.lconst 1, 1) := by decide +kernel
theorem dL_law_1515 : decode cL_law 1515 = .ok (.goto 4, 3) := by decide +kernel
theorem dL_law_1518 : decode cL_law 1518 = .ok (.lconst 0, 1) := by decide +kernel
theorem dL_law_1519 : decode cL_law 1519 = .ok (.lcmp, 1) := by decide +kernel
theorem dL_law_1520 : decode cL_law 1520 = .ok (.ifCond .eq 5, 3) := by decide +kernel
theorem dL_law_1523 : decode cL_law 1523 = .ok (.iconst 0, 1) := by decide +kernel
theorem dL_law_1524 : decode cL_law 1524 = .ok (.ireturn, 1) := by decide +kernel
theorem dL_law_1525 : decode cL_law 1525 = .ok (.goto 891, 3) := by decide +kernel
theorem dL_law_1528 : decode cL_law 1528 = .ok (.aload_n 1, 1) := by decide +kernel
theorem dL_law_1529 : decode cL_law 1529 = .ok (.invokevirtual 224, 3) := by decide +kernel
theorem dL_law_1532 : decode cL_law 1532 = .ok (.aload_n 2, 1) := by decide +kernel
theorem dL_law_1533 : decode cL_law 1533 = .ok (.invokevirtual 228, 3) := by decide +kernel
theorem dL_law_1536 : decode cL_law 1536 = .ok (.if_icmp .eq 880, 3) := by decide +kernel
theorem dL_law_1539 : decode cL_law 1539 = .ok (.iconst 0, 1) := by decide +kernel
theorem dL_law_1540 : decode cL_law 1540 = .ok (.ireturn, 1) := by decide +kernel
theorem dL_law_1541 : decode cL_law 1541 = .ok (.aload_n 1, 1) := by decide +kernel
theorem dL_law_1542 : decode cL_law 1542 = .ok (.aload_n 3, 1) := by decide +kernel
theorem dL_law_1543 : decode cL_law 1543 = .ok (.invokestatic 229, 3) := by decide +kernel
theorem dL_law_1546 : decode cL_law 1546 = .ok (.istore 6, 2) := by decide +kernel
theorem dL_law_1548 : decode cL_law 1548 = .ok (.aload_n 2, 1) := by decide +kernel
theorem dL_law_1549 : decode cL_law 1549 = .ok (.invokevirtual 231, 3) := by decide +kernel
theorem dL_law_1552 : decode cL_law 1552 = .ok (.istore 7, 2) := by decide +kernel
theorem dL_law_1554 : decode cL_law 1554 = .ok (.aload_n 2, 1) := by decide +kernel
theorem dL_law_1555 : decode cL_law 1555 = .ok (.invokevirtual 146, 3) := by decide +kernel
theorem dL_law_1558 : decode cL_law 1558 = .ok (.iload 6, 2) := by decide +kernel
theorem dL_law_1560 : decode cL_law 1560 = .ok (.if_icmp .eq 5, 3) := by decide +kernel
theorem dL_law_1563 : decode cL_law 1563 = .ok (.iconst 0, 1) := by decide +kernel
theorem dL_law_1564 : decode cL_law 1564 = .ok (.ireturn, 1) := by decide +kernel
theorem dL_law_1565 : decode cL_law 1565 = .ok (.iload 6, 2) := by decide +kernel
theorem dL_law_1567 : decode cL_law 1567 = .ok (.ifCond .ne 15, 3) := by decide +kernel
theorem dL_law_1570 : decode cL_law 1570 = .ok (.aload_n 3, 1) := by decide +kernel
theorem dL_law_1571 : decode cL_law 1571 = .ok (.iconst 0, 1) := by decide +kernel
theorem dL_law_1572 : decode cL_law 1572 = .ok (.laload, 1) := by decide +kernel
theorem dL_law_1573 : decode cL_law 1573 = .ok (.iload 7, 2) := by decide +kernel
theorem dL_law_1575 : decode cL_law 1575 = .ok (.i2l, 1) := by decide +kernel
theorem dL_law_1576 : decode cL_law 1576 = .ok (.lcmp, 1) := by decide +kernel
theorem dL_law_1577 : decode cL_law 1577 = .ok (.ifCond .eq 5, 3) := by decide +kernel
theorem dL_law_1580 : decode cL_law 1580 = .ok (.iconst 0, 1) := by decide +kernel
theorem dL_law_1581 : decode cL_law 1581 = .ok (.ireturn, 1) := by decide +kernel
theorem dL_law_1582 : decode cL_law 1582 = .ok (.goto 834, 3) := by decide +kernel
theorem dL_law_1585 : decode cL_law 1585 = .ok (.aload_n 1, 1) := by decide +kernel
theorem dL_law_1586 : decode cL_law 1586 = .ok (.aload_n 0, 1) := by decide +kernel
theorem dL_law_1587 : decode cL_law 1587 = .ok (.iload 5, 2) := by decide +kernel
theorem dL_law_1589 : decode cL_law 1589 = .ok (.iconst 1, 1) := by decide +kernel
theorem dL_law_1590 : decode cL_law 1590 = .ok (.iadd, 1) := by decide +kernel
theorem dL_law_1591 : decode cL_law 1591 = .ok (.iaload, 1) := by decide +kernel
theorem dL_law_1592 : decode cL_law 1592 = .ok (.aload_n 3, 1) := by decide +kernel
theorem dL_law_1593 : decode cL_law 1593 = .ok (.invokestatic 232, 3) := by decide +kernel
theorem dL_law_1596 : decode cL_law 1596 = .ok (.istore 6, 2) := by decide +kernel
theorem dL_law_1598 : decode cL_law 1598 = .ok (.aload_n 2, 1) := by decide +kernel
theorem dL_law_1599 : decode cL_law 1599 = .ok (.aload_n 0, 1) := by decide +kernel
theorem dL_law_1600 : decode cL_law 1600 = .ok (.iload 5, 2) := by decide +kernel
theorem dL_law_1602 : decode cL_law 1602 = .ok (.iconst 1, 1) := by decide +kernel
theorem dL_law_1603 : decode cL_law 1603 = .ok (.iadd, 1) := by decide +kernel
theorem dL_law_1604 : decode cL_law 1604 = .ok (.iaload, 1) := by decide +kernel
theorem dL_law_1605 : decode cL_law 1605 = .ok (.invokevirtual 234, 3) := by decide +kernel
theorem dL_law_1608 : decode cL_law 1608 = .ok (.istore 7, 2) := by decide +kernel
theorem dL_law_1610 : decode cL_law 1610 = .ok (.aload_n 2, 1) := by decide +kernel
theorem dL_law_1611 : decode cL_law 1611 = .ok (.invokevirtual 146, 3) := by decide +kernel
theorem dL_law_1614 : decode cL_law 1614 = .ok (.iload 6, 2) := by decide +kernel
theorem dL_law_1616 : decode cL_law 1616 = .ok (.if_icmp .eq 5, 3) := by decide +kernel
theorem dL_law_1619 : decode cL_law 1619 = .ok (.iconst 0, 1) := by decide +kernel
theorem dL_law_1620 : decode cL_law 1620 = .ok (.ireturn, 1) := by decide +kernel
theorem dL_law_1621 : decode cL_law 1621 = .ok (.iload 6, 2) := by decide +kernel
theorem dL_law_1623 : decode cL_law 1623 = .ok (.ifCond .ne 15, 3) := by decide +kernel
theorem dL_law_1626 : decode cL_law 1626 = .ok (.aload_n 3, 1) := by decide +kernel
theorem dL_law_1627 : decode cL_law 1627 = .ok (.iconst 0, 1) := by decide +kernel
theorem dL_law_1628 : decode cL_law 1628 = .ok (.laload, 1) := by decide +kernel
theorem dL_law_1629 : decode cL_law 1629 = .ok (.iload 7, 2) := by decide +kernel
theorem dL_law_1631 : decode cL_law 1631 = .ok (.i2l, 1) := by decide +kernel
theorem dL_law_1632 : decode cL_law 1632 = .ok (.lcmp, 1) := by decide +kernel
theorem dL_law_1633 : decode cL_law 1633 = .ok (.ifCond .eq 5, 3) := by decide +kernel
theorem dL_law_1636 : decode cL_law 1636 = .ok (.iconst 0, 1) := by decide +kernel
theorem dL_law_1637 : decode cL_law 1637 = .ok (.ireturn, 1) := by decide +kernel
theorem dL_law_1638 : decode cL_law 1638 = .ok (.goto 778, 3) := by decide +kernel
theorem dL_law_1641 : decode cL_law 1641 = .ok (.aload_n 1, 1) := by decide +kernel
theorem dL_law_1642 : decode cL_law 1642 = .ok (.invokevirtual 235, 3) := by decide +kernel
theorem dL_law_1645 : decode cL_law 1645 = .ok (.aload_n 2, 1) := by decide +kernel
theorem dL_law_1646 : decode cL_law 1646 = .ok (.invokevirtual 238, 3) := by decide +kernel
theorem dL_law_1649 : decode cL_law 1649 = .ok (.if_icmp .eq 767, 3) := by decide +kernel
theorem dL_law_1652 : decode cL_law 1652 = .ok (.iconst 0, 1) := by decide +kernel
theorem dL_law_1653 : decode cL_law 1653 = .ok (.ireturn, 1) := by decide +kernel
theorem dL_law_1654 : decode cL_law 1654 = .ok (.aload_n 1, 1) := by decide +kernel
theorem dL_law_1655 : decode cL_law 1655 = .ok (.invokevirtual 239, 3) := by decide +kernel
theorem dL_law_1658 : decode cL_law 1658 = .ok (.aload_n 2, 1) := by decide +kernel
theorem dL_law_1659 : decode cL_law 1659 = .ok (.invokevirtual 242, 3) := by decide +kernel
theorem dL_law_1662 : decode cL_law 1662 = .ok (.if_icmp .eq 754, 3) := by decide +kernel
theorem dL_law_1665 : decode cL_law 1665 = .ok (.iconst 0, 1) := by decide +kernel
theorem dL_law_1666 : decode cL_law 1666 = .ok (.ireturn, 1) := by decide +kernel
theorem dL_law_1667 : decode cL_law 1667 = .ok (.aload_n 1, 1) := by decide +kernel
theorem dL_law_1668 : decode cL_law 1668 = .ok (.aload_n 0, 1) := by decide +kernel
theorem dL_law_1669 : decode cL_law 1669 = .ok (.iload 5, 2) := by decide +kernel
theorem dL_law_1671 : decode cL_law 1671 = .ok (.iconst 1, 1) := by decide +kernel
theorem dL_law_1672 : decode cL_law 1672 = .ok (.iadd, 1) := by decide +kernel
theorem dL_law_1673 : decode cL_law 1673 = .ok (.iaload, 1) := by decide +kernel
theorem dL_law_1674 : decode cL_law 1674 = .ok (.aload_n 3, 1) := by decide +kernel
theorem dL_law_1675 : decode cL_law 1675 = .ok (.invokestatic 243, 3) := by decide +kernel
theorem dL_law_1678 : decode cL_law 1678 = .ok (.istore 6, 2) := by decide +kernel
theorem dL_law_1680 : decode cL_law 1680 = .ok (.aload_n 2, 1) := by decide +kernel
theorem dL_law_1681 : decode cL_law 1681 = .ok (.aload_n 0, 1) := by decide +kernel
theorem dL_law_1682 : decode cL_law 1682 = .ok (.iload 5, 2) := by decide +kernel
theorem dL_law_1684 : decode cL_law 1684 = .ok (.iconst 1, 1) := by decide +kernel
theorem dL_law_1685 : decode cL_law 1685 = .ok (.iadd, 1) := by decide +kernel
theorem dL_law_1686 : decode cL_law 1686 = .ok (.iaload, 1) := by decide +kernel
theorem dL_law_1687 : decode cL_law 1687 = .ok (.invokevirtual 245, 3) := by decide +kernel
theorem dL_law_1690 : decode cL_law 1690 = .ok (.istore 7, 2) := by decide +kernel
theorem dL_law_1692 : decode cL_law 1692 = .ok (.aload_n 2, 1) := by decide +kernel
theorem dL_law_1693 : decode cL_law 1693 = .ok (.invokevirtual 146, 3) := by decide +kernel
theorem dL_law_1696 : decode cL_law 1696 = .ok (.iload 6, 2) := by decide +kernel
theorem dL_law_1698 : decode cL_law 1698 = .ok (.if_icmp .eq 5, 3) := by decide +kernel
theorem dL_law_1701 : decode cL_law 1701 = .ok (.iconst 0, 1) := by decide +kernel
theorem dL_law_1702 : decode cL_law 1702 = .ok (.ireturn, 1) := by decide +kernel
theorem dL_law_1703 : decode cL_law 1703 = .ok (.iload 6, 2) := by decide +kernel
theorem dL_law_1705 : decode cL_law 1705 = .ok (.ifCond .ne 15, 3) := by decide +kernel
theorem dL_law_1708 : decode cL_law 1708 = .ok (.aload_n 3, 1) := by decide +kernel
theorem dL_law_1709 : decode cL_law 1709 = .ok (.iconst 0, 1) := by decide +kernel
theorem dL_law_1710 : decode cL_law 1710 = .ok (.laload, 1) := by decide +kernel
theorem dL_law_1711 : decode cL_law 1711 = .ok (.iload 7, 2) := by decide +kernel
theorem dL_law_1713 : decode cL_law 1713 = .ok (.i2l, 1) := by decide +kernel
theorem dL_law_1714 : decode cL_law 1714 = .ok (.lcmp, 1) := by decide +kernel
theorem dL_law_1715 : decode cL_law 1715 = .ok (.ifCond .eq 5, 3) := by decide +kernel
theorem dL_law_1718 : decode cL_law 1718 = .ok (.iconst 0, 1) := by decide +kernel
theorem dL_law_1719 : decode cL_law 1719 = .ok (.ireturn, 1) := by decide +kernel
theorem dL_law_1720 : decode cL_law 1720 = .ok (.goto 696, 3) := by decide +kernel
theorem dL_law_1723 : decode cL_law 1723 = .ok (.aload_n 1, 1) := by decide +kernel
theorem dL_law_1724 : decode cL_law 1724 = .ok (.invokevirtual 246, 3) := by decide +kernel
theorem dL_law_1727 : decode cL_law 1727 = .ok (.aload_n 2, 1) := by decide +kernel
theorem dL_law_1728 : decode cL_law 1728 = .ok (.invokevirtual 249, 3) := by decide +kernel
theorem dL_law_1731 : decode cL_law 1731 = .ok (.if_icmp .eq 685, 3) := by decide +kernel
theorem dL_law_1734 : decode cL_law 1734 = .ok (.iconst 0, 1) := by decide +kernel
theorem dL_law_1735 : decode cL_law 1735 = .ok (.ireturn, 1) := by decide +kernel
theorem dL_law_1736 : decode cL_law 1736 = .ok (.aload_n 1, 1) := by decide +kernel
theorem dL_law_1737 : decode cL_law 1737 = .ok (.aload_n 0, 1) := by decide +kernel
theorem dL_law_1738 : decode cL_law 1738 = .ok (.iload 5, 2) := by decide +kernel
theorem dL_law_1740 : decode cL_law 1740 = .ok (.iconst 1, 1) := by decide +kernel
theorem dL_law_1741 : decode cL_law 1741 = .ok (.iadd, 1) := by decide +kernel
theorem dL_law_1742 : decode cL_law 1742 = .ok (.iaload, 1) := by decide +kernel
theorem dL_law_1743 : decode cL_law 1743 = .ok (.aload_n 0, 1) := by decide +kernel
theorem dL_law_1744 : decode cL_law 1744 = .ok (.iload 5, 2) := by decide +kernel
theorem dL_law_1746 : decode cL_law 1746 = .ok (.iconst 2, 1) := by decide +kernel
theorem dL_law_1747 : decode cL_law 1747 = .ok (.iadd, 1) := by decide +kernel
theorem dL_law_1748 : decode cL_law 1748 = .ok (.iaload, 1) := by decide +kernel
theorem dL_law_1749 : decode cL_law 1749 = .ok (.aload_n 3, 1) := by decide +kernel
theorem dL_law_1750 : decode cL_law 1750 = .ok (.invokestatic 250, 3) := by decide +kernel
theorem dL_law_1753 : decode cL_law 1753 = .ok (.istore 6, 2) := by decide +kernel
theorem dL_law_1755 : decode cL_law 1755 = .ok (.aload_n 2, 1) := by decide +kernel
theorem dL_law_1756 : decode cL_law 1756 = .ok (.aload_n 0, 1) := by decide +kernel
theorem dL_law_1757 : decode cL_law 1757 = .ok (.iload 5, 2) := by decide +kernel
theorem dL_law_1759 : decode cL_law 1759 = .ok (.iconst 1, 1) := by decide +kernel
theorem dL_law_1760 : decode cL_law 1760 = .ok (.iadd, 1) := by decide +kernel
theorem dL_law_1761 : decode cL_law 1761 = .ok (.iaload, 1) := by decide +kernel
theorem dL_law_1762 : decode cL_law 1762 = .ok (.aload_n 0, 1) := by decide +kernel
theorem dL_law_1763 : decode cL_law 1763 = .ok (.iload 5, 2) := by decide +kernel
theorem dL_law_1765 : decode cL_law 1765 = .ok (.iconst 2, 1) := by decide +kernel
theorem dL_law_1766 : decode cL_law 1766 = .ok (.iadd, 1) := by decide +kernel
theorem dL_law_1767 : decode cL_law 1767 = .ok (.iaload, 1) := by decide +kernel
theorem dL_law_1768 : decode cL_law 1768 = .ok (.invokevirtual 252, 3) := by decide +kernel
theorem dL_law_1771 : decode cL_law 1771 = .ok (.istore 7, 2) := by decide +kernel
theorem dL_law_1773 : decode cL_law 1773 = .ok (.aload_n 2, 1) := by decide +kernel
theorem dL_law_1774 : decode cL_law 1774 = .ok (.invokevirtual 146, 3) := by decide +kernel
theorem dL_law_1777 : decode cL_law 1777 = .ok (.iload 6, 2) := by decide +kernel
theorem dL_law_1779 : decode cL_law 1779 = .ok (.if_icmp .eq 5, 3) := by decide +kernel
theorem dL_law_1782 : decode cL_law 1782 = .ok (.iconst 0, 1) := by decide +kernel
theorem dL_law_1783 : decode cL_law 1783 = .ok (.ireturn, 1) := by decide +kernel
theorem dL_law_1784 : decode cL_law 1784 = .ok (.iload 6, 2) := by decide +kernel
theorem dL_law_1786 : decode cL_law 1786 = .ok (.ifCond .ne 15, 3) := by decide +kernel
theorem dL_law_1789 : decode cL_law 1789 = .ok (.aload_n 3, 1) := by decide +kernel
theorem dL_law_1790 : decode cL_law 1790 = .ok (.iconst 0, 1) := by decide +kernel
theorem dL_law_1791 : decode cL_law 1791 = .ok (.laload, 1) := by decide +kernel
theorem dL_law_1792 : decode cL_law 1792 = .ok (.iload 7, 2) := by decide +kernel
theorem dL_law_1794 : decode cL_law 1794 = .ok (.i2l, 1) := by decide +kernel
theorem dL_law_1795 : decode cL_law 1795 = .ok (.lcmp, 1) := by decide +kernel
theorem dL_law_1796 : decode cL_law 1796 = .ok (.ifCond .eq 5, 3) := by decide +kernel
theorem dL_law_1799 : decode cL_law 1799 = .ok (.iconst 0, 1) := by decide +kernel
theorem dL_law_1800 : decode cL_law 1800 = .ok (.ireturn, 1) := by decide +kernel
theorem dL_law_1801 : decode cL_law 1801 = .ok (.goto 615, 3) := by decide +kernel
theorem dL_law_1804 : decode cL_law 1804 = .ok (.aload_n 1, 1) := by decide +kernel
theorem dL_law_1805 : decode cL_law 1805 = .ok (.aload 4, 2) := by decide +kernel
theorem dL_law_1807 : decode cL_law 1807 = .ok (.invokestatic 253, 3) := by decide +kernel
theorem dL_law_1810 : decode cL_law 1810 = .ok (.istore 6, 2) := by decide +kernel
theorem dL_law_1812 : decode cL_law 1812 = .ok (.aload_n 2, 1) := by decide +kernel
theorem dL_law_1813 : decode cL_law 1813 = .ok (.invokevirtual 256, 3) := by decide +kernel
theorem dL_law_1816 : decode cL_law 1816 = .ok (.dstore 7, 2) := by decide +kernel
theorem dL_law_1818 : decode cL_law 1818 = .ok (.aload_n 2, 1) := by decide +kernel
theorem dL_law_1819 : decode cL_law 1819 = .ok (.invokevirtual 146, 3) := by decide +kernel
theorem dL_law_1822 : decode cL_law 1822 = .ok (.iload 6, 2) := by decide +kernel
theorem dL_law_1824 : decode cL_law 1824 = .ok (.if_icmp .eq 5, 3) := by decide +kernel
theorem dL_law_1827 : decode cL_law 1827 = .ok (.iconst 0, 1) := by decide +kernel
theorem dL_law_1828 : decode cL_law 1828 = .ok (.ireturn, 1) := by decide +kernel
theorem dL_law_1829 : decode cL_law 1829 = .ok (.iload 6, 2) := by decide +kernel
theorem dL_law_1831 : decode cL_law 1831 = .ok (.ifCond .ne 35, 3) := by decide +kernel
theorem dL_law_1834 : decode cL_law 1834 = .ok (.aload 4, 2) := by decide +kernel
theorem dL_law_1836 : decode cL_law 1836 = .ok (.iconst 0, 1) := by decide +kernel
theorem dL_law_1837 : decode cL_law 1837 = .ok (.daload, 1) := by decide +kernel
theorem dL_law_1838 : decode cL_law 1838 = .ok (.dload 7, 2) := by decide +kernel
theorem dL_law_1840 : decode cL_law 1840 = .ok (.dcmp .l, 1) := by decide +kernel
theorem dL_law_1841 : decode cL_law 1841 = .ok (.ifCond .eq 25, 3) := by decide +kernel
theorem dL_law_1844 : decode cL_law 1844 = .ok (.aload 4, 2) := by decide +kernel
theorem dL_law_1846 : decode cL_law 1846 = .ok (.iconst 0, 1) := by decide +kernel
theorem dL_law_1847 : decode cL_law 1847 = .ok (.daload, 1) := by decide +kernel
theorem dL_law_1848 : decode cL_law 1848 = .ok (.aload 4, 2) := by decide +kernel
theorem dL_law_1850 : decode cL_law 1850 = .ok (.iconst 0, 1) := by decide +kernel
theorem dL_law_1851 : decode cL_law 1851 = .ok (.daload, 1) := by decide +kernel
theorem dL_law_1852 : decode cL_law 1852 = .ok (.dcmp .l, 1) := by decide +kernel
theorem dL_law_1853 : decode cL_law 1853 = .ok (.ifCond .eq 11, 3) := by decide +kernel
theorem dL_law_1856 : decode cL_law 1856 = .ok (.dload 7, 2) := by decide +kernel
theorem dL_law_1858 : decode cL_law 1858 = .ok (.dload 7, 2) := by decide +kernel
theorem dL_law_1860 : decode cL_law 1860 = .ok (.dcmp .l, 1) := by decide +kernel
theorem dL_law_1861 : decode cL_law 1861 = .ok (.ifCond .ne 5, 3) := by decide +kernel
theorem dL_law_1864 : decode cL_law 1864 = .ok (.iconst 0, 1) := by decide +kernel
theorem dL_law_1865 : decode cL_law 1865 = .ok (.ireturn, 1) := by decide +kernel
theorem dL_law_1866 : decode cL_law 1866 = .ok (.goto 550, 3) := by decide +kernel
theorem dL_law_1869 : decode cL_law 1869 = .ok (.aload_n 1, 1) := by decide +kernel
theorem dL_law_1870 : decode cL_law 1870 = .ok (.aload_n 3, 1) := by decide +kernel
theorem dL_law_1871 : decode cL_law 1871 = .ok (.invokestatic 257, 3) := by decide +kernel
theorem dL_law_1874 : decode cL_law 1874 = .ok (.istore 6, 2) := by decide +kernel
theorem dL_law_1876 : decode cL_law 1876 = .ok (.aload_n 2, 1) := by decide +kernel
theorem dL_law_1877 : decode cL_law 1877 = .ok (.invokevirtual 259, 3) := by decide +kernel
theorem dL_law_1880 : decode cL_law 1880 = .ok (.istore 7, 2) := by decide +kernel
theorem dL_law_1882 : decode cL_law 1882 = .ok (.aload_n 2, 1) := by decide +kernel
theorem dL_law_1883 : decode cL_law 1883 = .ok (.invokevirtual 146, 3) := by decide +kernel
theorem dL_law_1886 : decode cL_law 1886 = .ok (.iload 6, 2) := by decide +kernel
theorem dL_law_1888 : decode cL_law 1888 = .ok (.if_icmp .eq 5, 3) := by decide +kernel
theorem dL_law_1891 : decode cL_law 1891 = .ok (.iconst 0, 1) := by decide +kernel
theorem dL_law_1892 : decode cL_law 1892 = .ok (.ireturn, 1) := by decide +kernel
theorem dL_law_1893 : decode cL_law 1893 = .ok (.iload 6, 2) := by decide +kernel
theorem dL_law_1895 : decode cL_law 1895 = .ok (.ifCond .ne 15, 3) := by decide +kernel
theorem dL_law_1898 : decode cL_law 1898 = .ok (.aload_n 3, 1) := by decide +kernel
theorem dL_law_1899 : decode cL_law 1899 = .ok (.iconst 0, 1) := by decide +kernel
theorem dL_law_1900 : decode cL_law 1900 = .ok (.laload, 1) := by decide +kernel
theorem dL_law_1901 : decode cL_law 1901 = .ok (.iload 7, 2) := by decide +kernel
theorem dL_law_1903 : decode cL_law 1903 = .ok (.i2l, 1) := by decide +kernel
theorem dL_law_1904 : decode cL_law 1904 = .ok (.lcmp, 1) := by decide +kernel
theorem dL_law_1905 : decode cL_law 1905 = .ok (.ifCond .eq 5, 3) := by decide +kernel
theorem dL_law_1908 : decode cL_law 1908 = .ok (.iconst 0, 1) := by decide +kernel
theorem dL_law_1909 : decode cL_law 1909 = .ok (.ireturn, 1) := by decide +kernel
theorem dL_law_1910 : decode cL_law 1910 = .ok (.goto 506, 3) := by decide +kernel
theorem dL_law_1913 : decode cL_law 1913 = .ok (.aload_n 1, 1) := by decide +kernel
theorem dL_law_1914 : decode cL_law 1914 = .ok (.aload_n 3, 1) := by decide +kernel
theorem dL_law_1915 : decode cL_law 1915 = .ok (.invokestatic 260, 3) := by decide +kernel
theorem dL_law_1918 : decode cL_law 1918 = .ok (.istore 6, 2) := by decide +kernel
theorem dL_law_1920 : decode cL_law 1920 = .ok (.aload_n 2, 1) := by decide +kernel
theorem dL_law_1921 : decode cL_law 1921 = .ok (.invokevirtual 262, 3) := by decide +kernel
theorem dL_law_1924 : decode cL_law 1924 = .ok (.istore 7, 2) := by decide +kernel
theorem dL_law_1926 : decode cL_law 1926 = .ok (.aload_n 2, 1) := by decide +kernel
theorem dL_law_1927 : decode cL_law 1927 = .ok (.invokevirtual 146, 3) := by decide +kernel
theorem dL_law_1930 : decode cL_law 1930 = .ok (.iload 6, 2) := by decide +kernel
theorem dL_law_1932 : decode cL_law 1932 = .ok (.if_icmp .eq 5, 3) := by decide +kernel
theorem dL_law_1935 : decode cL_law 1935 = .ok (.iconst 0, 1) := by decide +kernel
theorem dL_law_1936 : decode cL_law 1936 = .ok (.ireturn, 1) := by decide +kernel
theorem dL_law_1937 : decode cL_law 1937 = .ok (.iload 6, 2) := by decide +kernel
theorem dL_law_1939 : decode cL_law 1939 = .ok (.ifCond .ne 15, 3) := by decide +kernel
theorem dL_law_1942 : decode cL_law 1942 = .ok (.aload_n 3, 1) := by decide +kernel
theorem dL_law_1943 : decode cL_law 1943 = .ok (.iconst 0, 1) := by decide +kernel
theorem dL_law_1944 : decode cL_law 1944 = .ok (.laload, 1) := by decide +kernel
theorem dL_law_1945 : decode cL_law 1945 = .ok (.iload 7, 2) := by decide +kernel
theorem dL_law_1947 : decode cL_law 1947 = .ok (.i2l, 1) := by decide +kernel
theorem dL_law_1948 : decode cL_law 1948 = .ok (.lcmp, 1) := by decide +kernel
theorem dL_law_1949 : decode cL_law 1949 = .ok (.ifCond .eq 5, 3) := by decide +kernel
theorem dL_law_1952 : decode cL_law 1952 = .ok (.iconst 0, 1) := by decide +kernel
theorem dL_law_1953 : decode cL_law 1953 = .ok (.ireturn, 1) := by decide +kernel
theorem dL_law_1954 : decode cL_law 1954 = .ok (.goto 462, 3) := by decide +kernel
theorem dL_law_1957 : decode cL_law 1957 = .ok (.aload_n 1, 1) := by decide +kernel
theorem dL_law_1958 : decode cL_law 1958 = .ok (.aload_n 0, 1) := by decide +kernel
theorem dL_law_1959 : decode cL_law 1959 = .ok (.iload 5, 2) := by decide +kernel
theorem dL_law_1961 : decode cL_law 1961 = .ok (.iconst 1, 1) := by decide +kernel
theorem dL_law_1962 : decode cL_law 1962 = .ok (.iadd, 1) := by decide +kernel
theorem dL_law_1963 : decode cL_law 1963 = .ok (.iaload, 1) := by decide +kernel
theorem dL_law_1964 : decode cL_law 1964 = .ok (.aload_n 3, 1) := by decide +kernel
theorem dL_law_1965 : decode cL_law 1965 = .ok (.invokestatic 263, 3) := by decide +kernel
theorem dL_law_1968 : decode cL_law 1968 = .ok (.istore 6, 2) := by decide +kernel
theorem dL_law_1970 : decode cL_law 1970 = .ok (.aload_n 2, 1) := by decide +kernel
theorem dL_law_1971 : decode cL_law 1971 = .ok (.aload_n 0, 1) := by decide +kernel
theorem dL_law_1972 : decode cL_law 1972 = .ok (.iload 5, 2) := by decide +kernel
theorem dL_law_1974 : decode cL_law 1974 = .ok (.iconst 1, 1) := by decide +kernel
theorem dL_law_1975 : decode cL_law 1975 = .ok (.iadd, 1) := by decide +kernel
theorem dL_law_1976 : decode cL_law 1976 = .ok (.iaload, 1) := by decide +kernel
theorem dL_law_1977 : decode cL_law 1977 = .ok (.invokevirtual 265, 3) := by decide +kernel
theorem dL_law_1980 : decode cL_law 1980 = .ok (.istore 7, 2) := by decide +kernel
theorem dL_law_1982 : decode cL_law 1982 = .ok (.aload_n 2, 1) := by decide +kernel
theorem dL_law_1983 : decode cL_law 1983 = .ok (.invokevirtual 146, 3) := by decide +kernel
theorem dL_law_1986 : decode cL_law 1986 = .ok (.iload 6, 2) := by decide +kernel
theorem dL_law_1988 : decode cL_law 1988 = .ok (.if_icmp .eq 5, 3) := by decide +kernel
theorem dL_law_1991 : decode cL_law 1991 = .ok (.iconst 0, 1) := by decide +kernel
theorem dL_law_1992 : decode cL_law 1992 = .ok (.ireturn, 1) := by decide +kernel
theorem dL_law_1993 : decode cL_law 1993 = .ok (.iload 6, 2) := by decide +kernel
theorem dL_law_1995 : decode cL_law 1995 = .ok (.ifCond .ne 15, 3) := by decide +kernel
theorem dL_law_1998 : decode cL_law 1998 = .ok (.aload_n 3, 1) := by decide +kernel
theorem dL_law_1999 : decode cL_law 1999 = .ok (.iconst 0, 1) := by decide +kernel
theorem dL_law_2000 : decode cL_law 2000 = .ok (.laload, 1) := by decide +kernel
theorem dL_law_2001 : decode cL_law 2001 = .ok (.iload 7, 2) := by decide +kernel
theorem dL_law_2003 : decode cL_law 2003 = .ok (.i2l, 1) := by decide +kernel
theorem dL_law_2004 : decode cL_law 2004 = .ok (.lcmp, 1) := by decide +kernel
theorem dL_law_2005 : decode cL_law 2005 = .ok (.ifCond .eq 5, 3) := by decide +kernel
theorem dL_law_2008 : decode cL_law 2008 = .ok (.iconst 0, 1) := by decide +kernel
theorem dL_law_2009 : decode cL_law 2009 = .ok (.ireturn, 1) := by decide +kernel
theorem dL_law_2010 : decode cL_law 2010 = .ok (.goto 406, 3) := by decide +kernel
theorem dL_law_2013 : decode cL_law 2013 = .ok (.aload_n 1, 1) := by decide +kernel
theorem dL_law_2014 : decode cL_law 2014 = .ok (.aload_n 3, 1) := by decide +kernel
theorem dL_law_2015 : decode cL_law 2015 = .ok (.invokestatic 266, 3) := by decide +kernel
theorem dL_law_2018 : decode cL_law 2018 = .ok (.istore 6, 2) := by decide +kernel
theorem dL_law_2020 : decode cL_law 2020 = .ok (.aload_n 2, 1) := by decide +kernel
theorem dL_law_2021 : decode cL_law 2021 = .ok (.invokevirtual 268, 3) := by decide +kernel
theorem dL_law_2024 : decode cL_law 2024 = .ok (.istore 7, 2) := by decide +kernel
theorem dL_law_2026 : decode cL_law 2026 = .ok (.aload_n 2, 1) := by decide +kernel
theorem dL_law_2027 : decode cL_law 2027 = .ok (.invokevirtual 146, 3) := by decide +kernel
theorem dL_law_2030 : decode cL_law 2030 = .ok (.iload 6, 2) := by decide +kernel
theorem dL_law_2032 : decode cL_law 2032 = .ok (.if_icmp .eq 5, 3) := by decide +kernel
theorem dL_law_2035 : decode cL_law 2035 = .ok (.iconst 0, 1) := by decide +kernel
theorem dL_law_2036 : decode cL_law 2036 = .ok (.ireturn, 1) := by decide +kernel
theorem dL_law_2037 : decode cL_law 2037 = .ok (.iload 6, 2) := by decide +kernel
theorem dL_law_2039 : decode cL_law 2039 = .ok (.ifCond .ne 15, 3) := by decide +kernel
theorem dL_law_2042 : decode cL_law 2042 = .ok (.aload_n 3, 1) := by decide +kernel
theorem dL_law_2043 : decode cL_law 2043 = .ok (.iconst 0, 1) := by decide +kernel
theorem dL_law_2044 : decode cL_law 2044 = .ok (.laload, 1) := by decide +kernel
theorem dL_law_2045 : decode cL_law 2045 = .ok (.iload 7, 2) := by decide +kernel
theorem dL_law_2047 : decode cL_law 2047 = .ok (.i2l, 1) := by decide +kernel
theorem dL_law_2048 : decode cL_law 2048 = .ok (.lcmp, 1) := by decide +kernel
theorem dL_law_2049 : decode cL_law 2049 = .ok (.ifCond .eq 5, 3) := by decide +kernel
theorem dL_law_2052 : decode cL_law 2052 = .ok (.iconst 0, 1) := by decide +kernel
theorem dL_law_2053 : decode cL_law 2053 = .ok (.ireturn, 1) := by decide +kernel
theorem dL_law_2054 : decode cL_law 2054 = .ok (.goto 362, 3) := by decide +kernel
theorem dL_law_2057 : decode cL_law 2057 = .ok (.aload_n 1, 1) := by decide +kernel
theorem dL_law_2058 : decode cL_law 2058 = .ok (.aload_n 3, 1) := by decide +kernel
theorem dL_law_2059 : decode cL_law 2059 = .ok (.invokestatic 269, 3) := by decide +kernel
theorem dL_law_2062 : decode cL_law 2062 = .ok (.istore 6, 2) := by decide +kernel
theorem dL_law_2064 : decode cL_law 2064 = .ok (.aload_n 2, 1) := by decide +kernel
theorem dL_law_2065 : decode cL_law 2065 = .ok (.invokevirtual 271, 3) := by decide +kernel
theorem dL_law_2068 : decode cL_law 2068 = .ok (.istore 7, 2) := by decide +kernel
theorem dL_law_2070 : decode cL_law 2070 = .ok (.aload_n 2, 1) := by decide +kernel
theorem dL_law_2071 : decode cL_law 2071 = .ok (.invokevirtual 146, 3) := by decide +kernel
theorem dL_law_2074 : decode cL_law 2074 = .ok (.iload 6, 2) := by decide +kernel
theorem dL_law_2076 : decode cL_law 2076 = .ok (.if_icmp .eq 5, 3) := by decide +kernel
theorem dL_law_2079 : decode cL_law 2079 = .ok (.iconst 0, 1) := by decide +kernel
theorem dL_law_2080 : decode cL_law 2080 = .ok (.ireturn, 1) := by decide +kernel
theorem dL_law_2081 : decode cL_law 2081 = .ok (.iload 6, 2) := by decide +kernel
theorem dL_law_2083 : decode cL_law 2083 = .ok (.ifCond .ne 15, 3) := by decide +kernel
theorem dL_law_2086 : decode cL_law 2086 = .ok (.aload_n 3, 1) := by decide +kernel
theorem dL_law_2087 : decode cL_law 2087 = .ok (.iconst 0, 1) := by decide +kernel
theorem dL_law_2088 : decode cL_law 2088 = .ok (.laload, 1) := by decide +kernel
theorem dL_law_2089 : decode cL_law 2089 = .ok (.iload 7, 2) := by decide +kernel
theorem dL_law_2091 : decode cL_law 2091 = .ok (.i2l, 1) := by decide +kernel
theorem dL_law_2092 : decode cL_law 2092 = .ok (.lcmp, 1) := by decide +kernel
theorem dL_law_2093 : decode cL_law 2093 = .ok (.ifCond .eq 5, 3) := by decide +kernel
theorem dL_law_2096 : decode cL_law 2096 = .ok (.iconst 0, 1) := by decide +kernel
theorem dL_law_2097 : decode cL_law 2097 = .ok (.ireturn, 1) := by decide +kernel
theorem dL_law_2098 : decode cL_law 2098 = .ok (.goto 318, 3) := by decide +kernel
theorem dL_law_2101 : decode cL_law 2101 = .ok (.aload_n 1, 1) := by decide +kernel
theorem dL_law_2102 : decode cL_law 2102 = .ok (.aload_n 0, 1) := by decide +kernel
theorem dL_law_2103 : decode cL_law 2103 = .ok (.iload 5, 2) := by decide +kernel
theorem dL_law_2105 : decode cL_law 2105 = .ok (.iconst 1, 1) := by decide +kernel
theorem dL_law_2106 : decode cL_law 2106 = .ok (.iadd, 1) := by decide +kernel
theorem dL_law_2107 : decode cL_law 2107 = .ok (.iaload, 1) := by decide +kernel
theorem dL_law_2108 : decode cL_law 2108 = .ok (.i2c, 1) := by decide +kernel
theorem dL_law_2109 : decode cL_law 2109 = .ok (.aload_n 3, 1) := by decide +kernel
theorem dL_law_2110 : decode cL_law 2110 = .ok (.invokestatic 272, 3) := by decide +kernel
theorem dL_law_2113 : decode cL_law 2113 = .ok (.istore 6, 2) := by decide +kernel
theorem dL_law_2115 : decode cL_law 2115 = .ok (.aload_n 2, 1) := by decide +kernel
theorem dL_law_2116 : decode cL_law 2116 = .ok (.aload_n 0, 1) := by decide +kernel
theorem dL_law_2117 : decode cL_law 2117 = .ok (.iload 5, 2) := by decide +kernel
theorem dL_law_2119 : decode cL_law 2119 = .ok (.iconst 1, 1) := by decide +kernel
theorem dL_law_2120 : decode cL_law 2120 = .ok (.iadd, 1) := by decide +kernel
theorem dL_law_2121 : decode cL_law 2121 = .ok (.iaload, 1) := by decide +kernel
theorem dL_law_2122 : decode cL_law 2122 = .ok (.i2c, 1) := by decide +kernel
theorem dL_law_2123 : decode cL_law 2123 = .ok (.invokevirtual 275, 3) := by decide +kernel
theorem dL_law_2126 : decode cL_law 2126 = .ok (.istore 7, 2) := by decide +kernel
theorem dL_law_2128 : decode cL_law 2128 = .ok (.aload_n 2, 1) := by decide +kernel
theorem dL_law_2129 : decode cL_law 2129 = .ok (.invokevirtual 146, 3) := by decide +kernel
theorem dL_law_2132 : decode cL_law 2132 = .ok (.iload 6, 2) := by decide +kernel
theorem dL_law_2134 : decode cL_law 2134 = .ok (.if_icmp .eq 5, 3) := by decide +kernel
theorem dL_law_2137 : decode cL_law 2137 = .ok (.iconst 0, 1) := by decide +kernel
theorem dL_law_2138 : decode cL_law 2138 = .ok (.ireturn, 1) := by decide +kernel
theorem dL_law_2139 : decode cL_law 2139 = .ok (.iload 6, 2) := by decide +kernel
theorem dL_law_2141 : decode cL_law 2141 = .ok (.ifCond .ne 15, 3) := by decide +kernel
theorem dL_law_2144 : decode cL_law 2144 = .ok (.aload_n 3, 1) := by decide +kernel
theorem dL_law_2145 : decode cL_law 2145 = .ok (.iconst 0, 1) := by decide +kernel
theorem dL_law_2146 : decode cL_law 2146 = .ok (.laload, 1) := by decide +kernel
theorem dL_law_2147 : decode cL_law 2147 = .ok (.iload 7, 2) := by decide +kernel
theorem dL_law_2149 : decode cL_law 2149 = .ok (.i2l, 1) := by decide +kernel
theorem dL_law_2150 : decode cL_law 2150 = .ok (.lcmp, 1) := by decide +kernel
theorem dL_law_2151 : decode cL_law 2151 = .ok (.ifCond .eq 5, 3) := by decide +kernel
theorem dL_law_2154 : decode cL_law 2154 = .ok (.iconst 0, 1) := by decide +kernel
theorem dL_law_2155 : decode cL_law 2155 = .ok (.ireturn, 1) := by decide +kernel
theorem dL_law_2156 : decode cL_law 2156 = .ok (.goto 260, 3) := by decide +kernel
theorem dL_law_2159 : decode cL_law 2159 = .ok (.aload_n 1, 1) := by decide +kernel
theorem dL_law_2160 : decode cL_law 2160 = .ok (.aload_n 3, 1) := by decide +kernel
theorem dL_law_2161 : decode cL_law 2161 = .ok (.invokestatic 276, 3) := by decide +kernel
theorem dL_law_2164 : decode cL_law 2164 = .ok (.istore 6, 2) := by decide +kernel
theorem dL_law_2166 : decode cL_law 2166 = .ok (.aload_n 2, 1) := by decide +kernel
theorem dL_law_2167 : decode cL_law 2167 = .ok (.invokevirtual 278, 3) := by decide +kernel
theorem dL_law_2170 : decode cL_law 2170 = .ok (.istore 7, 2) := by decide +kernel
theorem dL_law_2172 : decode cL_law 2172 = .ok (.aload_n 2, 1) := by decide +kernel
theorem dL_law_2173 : decode cL_law 2173 = .ok (.invokevirtual 146, 3) := by decide +kernel
theorem dL_law_2176 : decode cL_law 2176 = .ok (.iload 6, 2) := by decide +kernel
theorem dL_law_2178 : decode cL_law 2178 = .ok (.if_icmp .eq 5, 3) := by decide +kernel
theorem dL_law_2181 : decode cL_law 2181 = .ok (.iconst 0, 1) := by decide +kernel
theorem dL_law_2182 : decode cL_law 2182 = .ok (.ireturn, 1) := by decide +kernel
theorem dL_law_2183 : decode cL_law 2183 = .ok (.iload 6, 2) := by decide +kernel
theorem dL_law_2185 : decode cL_law 2185 = .ok (.ifCond .ne 15, 3) := by decide +kernel
theorem dL_law_2188 : decode cL_law 2188 = .ok (.aload_n 3, 1) := by decide +kernel
theorem dL_law_2189 : decode cL_law 2189 = .ok (.iconst 0, 1) := by decide +kernel
theorem dL_law_2190 : decode cL_law 2190 = .ok (.laload, 1) := by decide +kernel
theorem dL_law_2191 : decode cL_law 2191 = .ok (.iload 7, 2) := by decide +kernel
theorem dL_law_2193 : decode cL_law 2193 = .ok (.i2l, 1) := by decide +kernel
theorem dL_law_2194 : decode cL_law 2194 = .ok (.lcmp, 1) := by decide +kernel
theorem dL_law_2195 : decode cL_law 2195 = .ok (.ifCond .eq 5, 3) := by decide +kernel
theorem dL_law_2198 : decode cL_law 2198 = .ok (.iconst 0, 1) := by decide +kernel
theorem dL_law_2199 : decode cL_law 2199 = .ok (.ireturn, 1) := by decide +kernel
theorem dL_law_2200 : decode cL_law 2200 = .ok (.goto 216, 3) := by decide +kernel
theorem dL_law_2203 : decode cL_law 2203 = .ok (.aload_n 1, 1) := by decide +kernel
theorem dL_law_2204 : decode cL_law 2204 = .ok (.aload_n 3, 1) := by decide +kernel
theorem dL_law_2205 : decode cL_law 2205 = .ok (.invokestatic 279, 3) := by decide +kernel
theorem dL_law_2208 : decode cL_law 2208 = .ok (.istore 6, 2) := by decide +kernel
theorem dL_law_2210 : decode cL_law 2210 = .ok (.aload_n 2, 1) := by decide +kernel
theorem dL_law_2211 : decode cL_law 2211 = .ok (.invokevirtual 281, 3) := by decide +kernel
theorem dL_law_2214 : decode cL_law 2214 = .ok (.istore 7, 2) := by decide +kernel
theorem dL_law_2216 : decode cL_law 2216 = .ok (.aload_n 2, 1) := by decide +kernel
theorem dL_law_2217 : decode cL_law 2217 = .ok (.invokevirtual 146, 3) := by decide +kernel
theorem dL_law_2220 : decode cL_law 2220 = .ok (.iload 6, 2) := by decide +kernel
theorem dL_law_2222 : decode cL_law 2222 = .ok (.if_icmp .eq 5, 3) := by decide +kernel
theorem dL_law_2225 : decode cL_law 2225 = .ok (.iconst 0, 1) := by decide +kernel
theorem dL_law_2226 : decode cL_law 2226 = .ok (.ireturn, 1) := by decide +kernel
theorem dL_law_2227 : decode cL_law 2227 = .ok (.iload 6, 2) := by decide +kernel
theorem dL_law_2229 : decode cL_law 2229 = .ok (.ifCond .ne 15, 3) := by decide +kernel
theorem dL_law_2232 : decode cL_law 2232 = .ok (.aload_n 3, 1) := by decide +kernel
theorem dL_law_2233 : decode cL_law 2233 = .ok (.iconst 0, 1) := by decide +kernel
theorem dL_law_2234 : decode cL_law 2234 = .ok (.laload, 1) := by decide +kernel
theorem dL_law_2235 : decode cL_law 2235 = .ok (.iload 7, 2) := by decide +kernel
theorem dL_law_2237 : decode cL_law 2237 = .ok (.i2l, 1) := by decide +kernel
theorem dL_law_2238 : decode cL_law 2238 = .ok (.lcmp, 1) := by decide +kernel
theorem dL_law_2239 : decode cL_law 2239 = .ok (.ifCond .eq 5, 3) := by decide +kernel
theorem dL_law_2242 : decode cL_law 2242 = .ok (.iconst 0, 1) := by decide +kernel
theorem dL_law_2243 : decode cL_law 2243 = .ok (.ireturn, 1) := by decide +kernel
theorem dL_law_2244 : decode cL_law 2244 = .ok (.goto 172, 3) := by decide +kernel
theorem dL_law_2247 : decode cL_law 2247 = .ok (.aload_n 1, 1) := by decide +kernel
theorem dL_law_2248 : decode cL_law 2248 = .ok (.aload_n 0, 1) := by decide +kernel
theorem dL_law_2249 : decode cL_law 2249 = .ok (.iload 5, 2) := by decide +kernel
theorem dL_law_2251 : decode cL_law 2251 = .ok (.iconst 1, 1) := by decide +kernel
theorem dL_law_2252 : decode cL_law 2252 = .ok (.iadd, 1) := by decide +kernel
theorem dL_law_2253 : decode cL_law 2253 = .ok (.iaload, 1) := by decide +kernel
theorem dL_law_2254 : decode cL_law 2254 = .ok (.aload_n 0, 1) := by decide +kernel
theorem dL_law_2255 : decode cL_law 2255 = .ok (.iload 5, 2) := by decide +kernel
theorem dL_law_2257 : decode cL_law 2257 = .ok (.iconst 2, 1) := by decide +kernel
theorem dL_law_2258 : decode cL_law 2258 = .ok (.iadd, 1) := by decide +kernel
theorem dL_law_2259 : decode cL_law 2259 = .ok (.iaload, 1) := by decide +kernel
theorem dL_law_2260 : decode cL_law 2260 = .ok (.aload_n 3, 1) := by decide +kernel
theorem dL_law_2261 : decode cL_law 2261 = .ok (.invokestatic 282, 3) := by decide +kernel
theorem dL_law_2264 : decode cL_law 2264 = .ok (.istore 6, 2) := by decide +kernel
theorem dL_law_2266 : decode cL_law 2266 = .ok (.aload_n 2, 1) := by decide +kernel
theorem dL_law_2267 : decode cL_law 2267 = .ok (.aload_n 0, 1) := by decide +kernel
theorem dL_law_2268 : decode cL_law 2268 = .ok (.iload 5, 2) := by decide +kernel
theorem dL_law_2270 : decode cL_law 2270 = .ok (.iconst 1, 1) := by decide +kernel
theorem dL_law_2271 : decode cL_law 2271 = .ok (.iadd, 1) := by decide +kernel
theorem dL_law_2272 : decode cL_law 2272 = .ok (.iaload, 1) := by decide +kernel
theorem dL_law_2273 : decode cL_law 2273 = .ok (.aload_n 0, 1) := by decide +kernel
theorem dL_law_2274 : decode cL_law 2274 = .ok (.iload 5, 2) := by decide +kernel
theorem dL_law_2276 : decode cL_law 2276 = .ok (.iconst 2, 1) := by decide +kernel
theorem dL_law_2277 : decode cL_law 2277 = .ok (.iadd, 1) := by decide +kernel
theorem dL_law_2278 : decode cL_law 2278 = .ok (.iaload, 1) := by decide +kernel
theorem dL_law_2279 : decode cL_law 2279 = .ok (.invokevirtual 284, 3) := by decide +kernel
theorem dL_law_2282 : decode cL_law 2282 = .ok (.istore 7, 2) := by decide +kernel
theorem dL_law_2284 : decode cL_law 2284 = .ok (.aload_n 2, 1) := by decide +kernel
theorem dL_law_2285 : decode cL_law 2285 = .ok (.invokevirtual 146, 3) := by decide +kernel
theorem dL_law_2288 : decode cL_law 2288 = .ok (.iload 6, 2) := by decide +kernel
theorem dL_law_2290 : decode cL_law 2290 = .ok (.if_icmp .eq 5, 3) := by decide +kernel
theorem dL_law_2293 : decode cL_law 2293 = .ok (.iconst 0, 1) := by decide +kernel
theorem dL_law_2294 : decode cL_law 2294 = .ok (.ireturn, 1) := by decide +kernel
theorem dL_law_2295 : decode cL_law 2295 = .ok (.iload 6, 2) := by decide +kernel
theorem dL_law_2297 : decode cL_law 2297 = .ok (.ifCond .ne 15, 3) := by decide +kernel
theorem dL_law_2300 : decode cL_law 2300 = .ok (.aload_n 3, 1) := by decide +kernel
theorem dL_law_2301 : decode cL_law 2301 = .ok (.iconst 0, 1) := by decide +kernel
theorem dL_law_2302 : decode cL_law 2302 = .ok (.laload, 1) := by decide +kernel
theorem dL_law_2303 : decode cL_law 2303 = .ok (.iload 7, 2) := by decide +kernel
theorem dL_law_2305 : decode cL_law 2305 = .ok (.i2l, 1) := by decide +kernel
theorem dL_law_2306 : decode cL_law 2306 = .ok (.lcmp, 1) := by decide +kernel
theorem dL_law_2307 : decode cL_law 2307 = .ok (.ifCond .eq 5, 3) := by decide +kernel
theorem dL_law_2310 : decode cL_law 2310 = .ok (.iconst 0, 1) := by decide +kernel
theorem dL_law_2311 : decode cL_law 2311 = .ok (.ireturn, 1) := by decide +kernel
theorem dL_law_2312 : decode cL_law 2312 = .ok (.goto 104, 3) := by decide +kernel
theorem dL_law_2315 : decode cL_law 2315 = .ok (.aload_n 1, 1) := by decide +kernel
theorem dL_law_2316 : decode cL_law 2316 = .ok (.aload_n 3, 1) := by decide +kernel
theorem dL_law_2317 : decode cL_law 2317 = .ok (.invokestatic 285, 3) := by decide +kernel
theorem dL_law_2320 : decode cL_law 2320 = .ok (.istore 6, 2) := by decide +kernel
theorem dL_law_2322 : decode cL_law 2322 = .ok (.aload_n 2, 1) := by decide +kernel
theorem dL_law_2323 : decode cL_law 2323 = .ok (.invokevirtual 287, 3) := by decide +kernel
theorem dL_law_2326 : decode cL_law 2326 = .ok (.istore 7, 2) := by decide +kernel
theorem dL_law_2328 : decode cL_law 2328 = .ok (.aload_n 2, 1) := by decide +kernel
theorem dL_law_2329 : decode cL_law 2329 = .ok (.invokevirtual 146, 3) := by decide +kernel
theorem dL_law_2332 : decode cL_law 2332 = .ok (.iload 6, 2) := by decide +kernel
theorem dL_law_2334 : decode cL_law 2334 = .ok (.if_icmp .eq 5, 3) := by decide +kernel
theorem dL_law_2337 : decode cL_law 2337 = .ok (.iconst 0, 1) := by decide +kernel
theorem dL_law_2338 : decode cL_law 2338 = .ok (.ireturn, 1) := by decide +kernel
theorem dL_law_2339 : decode cL_law 2339 = .ok (.iload 6, 2) := by decide +kernel
theorem dL_law_2341 : decode cL_law 2341 = .ok (.ifCond .ne 15, 3) := by decide +kernel
theorem dL_law_2344 : decode cL_law 2344 = .ok (.aload_n 3, 1) := by decide +kernel
theorem dL_law_2345 : decode cL_law 2345 = .ok (.iconst 0, 1) := by decide +kernel
theorem dL_law_2346 : decode cL_law 2346 = .ok (.laload, 1) := by decide +kernel
theorem dL_law_2347 : decode cL_law 2347 = .ok (.iload 7, 2) := by decide +kernel
theorem dL_law_2349 : decode cL_law 2349 = .ok (.i2l, 1) := by decide +kernel
theorem dL_law_2350 : decode cL_law 2350 = .ok (.lcmp, 1) := by decide +kernel
theorem dL_law_2351 : decode cL_law 2351 = .ok (.ifCond .eq 5, 3) := by decide +kernel
theorem dL_law_2354 : decode cL_law 2354 = .ok (.iconst 0, 1) := by decide +kernel
theorem dL_law_2355 : decode cL_law 2355 = .ok (.ireturn, 1) := by decide +kernel
theorem dL_law_2356 : decode cL_law 2356 = .ok (.goto 60, 3) := by decide +kernel
theorem dL_law_2359 : decode cL_law 2359 = .ok (.aload_n 1, 1) := by decide +kernel
theorem dL_law_2360 : decode cL_law 2360 = .ok (.invokevirtual 288, 3) := by decide +kernel
theorem dL_law_2363 : decode cL_law 2363 = .ok (.aload_n 2, 1) := by decide +kernel
theorem dL_law_2364 : decode cL_law 2364 = .ok (.invokevirtual 291, 3) := by decide +kernel
theorem dL_law_2367 : decode cL_law 2367 = .ok (.if_icmp .eq 49, 3) := by decide +kernel
theorem dL_law_2370 : decode cL_law 2370 = .ok (.iconst 0, 1) := by decide +kernel
theorem dL_law_2371 : decode cL_law 2371 = .ok (.ireturn, 1) := by decide +kernel
theorem dL_law_2372 : decode cL_law 2372 = .ok (.aload_n 1, 1) := by decide +kernel
theorem dL_law_2373 : decode cL_law 2373 = .ok (.aload_n 3, 1) := by decide +kernel
theorem dL_law_2374 : decode cL_law 2374 = .ok (.invokestatic 292, 3) := by decide +kernel
theorem dL_law_2377 : decode cL_law 2377 = .ok (.istore 6, 2) := by decide +kernel
theorem dL_law_2379 : decode cL_law 2379 = .ok (.aload_n 2, 1) := by decide +kernel
theorem dL_law_2380 : decode cL_law 2380 = .ok (.invokevirtual 294, 3) := by decide +kernel
theorem dL_law_2383 : decode cL_law 2383 = .ok (.istore 7, 2) := by decide +kernel
theorem dL_law_2385 : decode cL_law 2385 = .ok (.aload_n 2, 1) := by decide +kernel
theorem dL_law_2386 : decode cL_law 2386 = .ok (.invokevirtual 146, 3) := by decide +kernel
theorem dL_law_2389 : decode cL_law 2389 = .ok (.iload 6, 2) := by decide +kernel
theorem dL_law_2391 : decode cL_law 2391 = .ok (.if_icmp .eq 5, 3) := by decide +kernel
theorem dL_law_2394 : decode cL_law 2394 = .ok (.iconst 0, 1) := by decide +kernel
theorem dL_law_2395 : decode cL_law 2395 = .ok (.ireturn, 1) := by decide +kernel
theorem dL_law_2396 : decode cL_law 2396 = .ok (.iload 6, 2) := by decide +kernel
theorem dL_law_2398 : decode cL_law 2398 = .ok (.ifCond .ne 15, 3) := by decide +kernel
theorem dL_law_2401 : decode cL_law 2401 = .ok (.aload_n 3, 1) := by decide +kernel
theorem dL_law_2402 : decode cL_law 2402 = .ok (.iconst 0, 1) := by decide +kernel
theorem dL_law_2403 : decode cL_law 2403 = .ok (.laload, 1) := by decide +kernel
theorem dL_law_2404 : decode cL_law 2404 = .ok (.iload 7, 2) := by decide +kernel
theorem dL_law_2406 : decode cL_law 2406 = .ok (.i2l, 1) := by decide +kernel
theorem dL_law_2407 : decode cL_law 2407 = .ok (.lcmp, 1) := by decide +kernel
theorem dL_law_2408 : decode cL_law 2408 = .ok (.ifCond .eq 5, 3) := by decide +kernel
theorem dL_law_2411 : decode cL_law 2411 = .ok (.iconst 0, 1) := by decide +kernel
theorem dL_law_2412 : decode cL_law 2412 = .ok (.ireturn, 1) := by decide +kernel
theorem dL_law_2413 : decode cL_law 2413 = .ok (.goto 3, 3) := by decide +kernel
theorem dL_law_2416 : decode cL_law 2416 = .ok (.iinc 5 5, 3) := by decide +kernel
theorem dL_law_2419 : decode cL_law 2419 = .ok (.goto (-2391), 3) := by decide +kernel
theorem dL_law_2422 : decode cL_law 2422 = .ok (.iconst 1, 1) := by decide +kernel
theorem dL_law_2423 : decode cL_law 2423 = .ok (.ireturn, 1) := by decide +kernel
