theorem dL_addVariable_0 : decode cL_addVariable 0 = .ok (.aload_n 2, 1) := by decide +kernel
theorem dL_addVariable_1 : decode cL_addVariable 1 = .ok (.iconst 0, 1) := by decide +kernel
theorem dL_addVariable_2 : decode cL_addVariable 2 = .ok (.aload_n 0, 1) := by decide +kernel
theorem dL_addVariable_3 : decode cL_addVariable 3 = .ok (.iload_n 1, 1) := by decide +kernel
theorem dL_addVariable_4 : decode cL_addVariable 4 = .ok (.invokevirtual 7, 3) := by decide +kernel
theorem dL_addVariable_7 : decode cL_addVariable 7 = .ok (.i2l, 1) := by decide +kernel
theorem dL_addVariable_8 : decode cL_addVariable 8 = .ok (.lastore, 1) := by decide +kernel
theorem dL_addVariable_9 : decode cL_addVariable 9 = .ok (.goto 9, 3) := by decide +kernel
theorem dL_addVariable_12 : decode cL_addVariable 12 = .ok (.astore_n 3, 1) := by decide +kernel
theorem dL_addVariable_13 : decode cL_addVariable 13 = .ok (.iconst 1, 1) := by decide +kernel
theorem dL_addVariable_14 : decode cL_addVariable 14 = .ok (.ireturn, 1) := by decide +kernel
theorem dL_addVariable_15 : decode cL_addVariable 15 = .ok (.astore_n 3, 1) := by decide +kernel
theorem dL_addVariable_16 : decode cL_addVariable 16 = .ok (.iconst 2, 1) := by decide +kernel
theorem dL_addVariable_17 : decode cL_addVariable 17 = .ok (.ireturn, 1) := by decide +kernel
theorem dL_addVariable_18 : decode cL_addVariable 18 = .ok (.iconst 0, 1) := by decide +kernel
theorem dL_addVariable_19 : decode cL_addVariable 19 = .ok (.ireturn, 1) := by decide +kernel
theorem dL_setDomain_0 : decode cL_setDomain 0 = .ok (.aload_n 3, 1) := by decide +kernel
theorem dL_setDomain_1 : decode cL_setDomain 1 = .ok (.iconst 0, 1) := by decide +kernel
theorem dL_setDomain_2 : decode cL_setDomain 2 = .ok (.aload_n 0, 1) := by decide +kernel
theorem dL_setDomain_3 : decode cL_setDomain 3 = .ok (.iload_n 1, 1) := by decide +kernel
theorem dL_setDomain_4 : decode cL_setDomain 4 = .ok (.iload_n 2, 1) := by decide +kernel
theorem dL_setDomain_5 : decode cL_setDomain 5 = .ok (.invokevirtual 17, 3) := by decide +kernel
theorem dL_setDomain_8 : decode cL_setDomain 8 = .ok (.i2l, 1) := by decide +kernel
theorem dL_setDomain_9 : decode cL_setDomain 9 = .ok (.lastore, 1) := by decide +kernel
theorem dL_setDomain_10 : decode cL_setDomain 10 = .ok (.goto 11, 3) := by decide +kernel
theorem dL_setDomain_13 : decode cL_setDomain 13 = .ok (.astore 4, 2) := by decide +kernel
theorem dL_setDomain_15 : decode cL_setDomain 15 = .ok (.iconst 1, 1) := by decide +kernel
theorem dL_setDomain_16 : decode cL_setDomain 16 = .ok (.ireturn, 1) := by decide +kernel
theorem dL_setDomain_17 : decode cL_setDomain 17 = .ok (.astore 4, 2) := by decide +kernel
theorem dL_setDomain_19 : decode cL_setDomain 19 = .ok (.iconst 2, 1) := by decide +kernel
theorem dL_setDomain_20 : decode cL_setDomain 20 = .ok (.ireturn, 1) := by decide +kernel
theorem dL_setDomain_21 : decode cL_setDomain 21 = .ok (.iconst 0, 1) := by decide +kernel
theorem dL_setDomain_22 : decode cL_setDomain 22 = .ok (.ireturn, 1) := by decide +kernel
theorem dL_addConstraint_0 : decode cL_addConstraint 0 = .ok (.aload 5, 2) := by decide +kernel
theorem dL_addConstraint_2 : decode cL_addConstraint 2 = .ok (.iconst 0, 1) := by decide +kernel
theorem dL_addConstraint_3 : decode cL_addConstraint 3 = .ok (.aload_n 0, 1) := by decide +kernel
theorem dL_addConstraint_4 : decode cL_addConstraint 4 = .ok (.iload_n 1, 1) := by decide +kernel
theorem dL_addConstraint_5 : decode cL_addConstraint 5 = .ok (.iload_n 2, 1) := by decide +kernel
theorem dL_addConstraint_6 : decode cL_addConstraint 6 = .ok (.iload_n 3, 1) := by decide +kernel
theorem dL_addConstraint_7 : decode cL_addConstraint 7 = .ok (.iload 4, 2) := by decide +kernel
theorem dL_addConstraint_9 : decode cL_addConstraint 9 = .ok (.invokevirtual 23, 3) := by decide +kernel
theorem dL_addConstraint_12 : decode cL_addConstraint 12 = .ok (.i2l, 1) := by decide +kernel
theorem dL_addConstraint_13 : decode cL_addConstraint 13 = .ok (.lastore, 1) := by decide +kernel
theorem dL_addConstraint_14 : decode cL_addConstraint 14 = .ok (.goto 11, 3) := by decide +kernel
theorem dL_addConstraint_17 : decode cL_addConstraint 17 = .ok (.astore 6, 2) := by decide +kernel
theorem dL_addConstraint_19 : decode cL_addConstraint 19 = .ok (.iconst 1, 1) := by decide +kernel
theorem dL_addConstraint_20 : decode cL_addConstraint 20 = .ok (.ireturn, 1) := by decide +kernel
theorem dL_addConstraint_21 : decode cL_addConstraint 21 = .ok (.astore 6, 2) := by decide +kernel
theorem dL_addConstraint_23 : decode cL_addConstraint 23 = .ok (.iconst 2, 1) := by decide +kernel
theorem dL_addConstraint_24 : decode cL_addConstraint 24 = .ok (.ireturn, 1) := by decide +kernel
theorem dL_addConstraint_25 : decode cL_addConstraint 25 = .ok (.iconst 0, 1) := by decide +kernel
theorem dL_addConstraint_26 : decode cL_addConstraint 26 = .ok (.ireturn, 1) := by decide +kernel
theorem dL_removeConstraint_0 : decode cL_removeConstraint 0 = .ok (.aload_n 2, 1) := by decide +kernel
theorem dL_removeConstraint_1 : decode cL_removeConstraint 1 = .ok (.iconst 0, 1) := by decide +kernel
theorem dL_removeConstraint_2 : decode cL_removeConstraint 2 = .ok (.aload_n 0, 1) := by decide +kernel
theorem dL_removeConstraint_3 : decode cL_removeConstraint 3 = .ok (.iload_n 1, 1) := by decide +kernel
theorem dL_removeConstraint_4 : decode cL_removeConstraint 4 = .ok (.invokevirtual 27, 3) := by decide +kernel
theorem dL_removeConstraint_7 : decode cL_removeConstraint 7 = .ok (.i2l, 1) := by decide +kernel
theorem dL_removeConstraint_8 : decode cL_removeConstraint 8 = .ok (.lastore, 1) := by decide +kernel
theorem dL_removeConstraint_9 : decode cL_removeConstraint 9 = .ok (.goto 6, 3) := by decide +kernel
theorem dL_removeConstraint_12 : decode cL_removeConstraint 12 = .ok (.astore_n 3, 1) := by decide +kernel
theorem dL_removeConstraint_13 : decode cL_removeConstraint 13 = .ok (.iconst 1, 1) := by decide +kernel
theorem dL_removeConstraint_14 : decode cL_removeConstraint 14 = .ok (.ireturn, 1) := by decide +kernel
theorem dL_removeConstraint_15 : decode cL_removeConstraint 15 = .ok (.iconst 0, 1) := by decide +kernel
theorem dL_removeConstraint_16 : decode cL_removeConstraint 16 = .ok (.ireturn, 1) := by decide +kernel
theorem dL_setWeight_0 : decode cL_setWeight 0 = .ok (.aload_n 3, 1) := by decide +kernel
theorem dL_setWeight_1 : decode cL_setWeight 1 = .ok (.iconst 0, 1) := by decide +kernel
theorem dL_setWeight_2 : decode cL_setWeight 2 = .ok (.aload_n 0, 1) := by decide +kernel
theorem dL_setWeight_3 : decode cL_setWeight 3 = .ok (.iload_n 1, 1) := by decide +kernel
theorem dL_setWeight_4 : decode cL_setWeight 4 = .ok (.iload_n 2, 1) := by decide +kernel
theorem dL_setWeight_5 : decode cL_setWeight 5 = .ok (.invokevirtual 30, 3) := by decide +kernel
theorem dL_setWeight_8 : decode cL_setWeight 8 = .ok (.i2l, 1) := by decide +kernel
theorem dL_setWeight_9 : decode cL_setWeight 9 = .ok (.lastore, 1) := by decide +kernel
theorem dL_setWeight_10 : decode cL_setWeight 10 = .ok (.goto 11, 3) := by decide +kernel
theorem dL_setWeight_13 : decode cL_setWeight 13 = .ok (.astore 4, 2) := by decide +kernel
theorem dL_setWeight_15 : decode cL_setWeight 15 = .ok (.iconst 1, 1) := by decide +kernel
theorem dL_setWeight_16 : decode cL_setWeight 16 = .ok (.ireturn, 1) := by decide +kernel
theorem dL_setWeight_17 : decode cL_setWeight 17 = .ok (.astore 4, 2) := by decide +kernel
theorem dL_setWeight_19 : decode cL_setWeight 19 = .ok (.iconst 2, 1) := by decide +kernel
theorem dL_setWeight_20 : decode cL_setWeight 20 = .ok (.ireturn, 1) := by decide +kernel
theorem dL_setWeight_21 : decode cL_setWeight 21 = .ok (.iconst 0, 1) := by decide +kernel
theorem dL_setWeight_22 : decode cL_setWeight 22 = .ok (.ireturn, 1) := by decide +kernel
theorem dL_setValue_0 : decode cL_setValue 0 = .ok (.aload_n 3, 1) := by decide +kernel
theorem dL_setValue_1 : decode cL_setValue 1 = .ok (.iconst 0, 1) := by decide +kernel
theorem dL_setValue_2 : decode cL_setValue 2 = .ok (.aload_n 0, 1) := by decide +kernel
theorem dL_setValue_3 : decode cL_setValue 3 = .ok (.iload_n 1, 1) := by decide +kernel
theorem dL_setValue_4 : decode cL_setValue 4 = .ok (.iload_n 2, 1) := by decide +kernel
theorem dL_setValue_5 : decode cL_setValue 5 = .ok (.invokevirtual 33, 3) := by decide +kernel
theorem dL_setValue_8 : decode cL_setValue 8 = .ok (.i2l, 1) := by decide +kernel
theorem dL_setValue_9 : decode cL_setValue 9 = .ok (.lastore, 1) := by decide +kernel
theorem dL_setValue_10 : decode cL_setValue 10 = .ok (.goto 11, 3) := by decide +kernel
theorem dL_setValue_13 : decode cL_setValue 13 = .ok (.astore 4, 2) := by decide +kernel
theorem dL_setValue_15 : decode cL_setValue 15 = .ok (.iconst 1, 1) := by decide +kernel
theorem dL_setValue_16 : decode cL_setValue 16 = .ok (.ireturn, 1) := by decide +kernel
theorem dL_setValue_17 : decode cL_setValue 17 = .ok (.astore 4, 2) := by decide +kernel
theorem dL_setValue_19 : decode cL_setValue 19 = .ok (.iconst 2, 1) := by decide +kernel
theorem dL_setValue_20 : decode cL_setValue 20 = .ok (.ireturn, 1) := by decide +kernel
theorem dL_setValue_21 : decode cL_setValue 21 = .ok (.iconst 0, 1) := by decide +kernel
theorem dL_setValue_22 : decode cL_setValue 22 = .ok (.ireturn, 1) := by decide +kernel
theorem dL_count_0 : decode cL_count 0 = .ok (.aload_n 2, 1) := by decide +kernel
theorem dL_count_1 : decode cL_count 1 = .ok (.iconst 0, 1) := by decide +kernel
theorem dL_count_2 : decode cL_count 2 = .ok (.aload_n 0, 1) := by decide +kernel
theorem dL_count_3 : decode cL_count 3 = .ok (.iload_n 1, 1) := by decide +kernel
theorem dL_count_4 : decode cL_count 4 = .ok (.invokevirtual 36, 3) := by decide +kernel
theorem dL_count_7 : decode cL_count 7 = .ok (.i2l, 1) := by decide +kernel
theorem dL_count_8 : decode cL_count 8 = .ok (.lastore, 1) := by decide +kernel
theorem dL_count_9 : decode cL_count 9 = .ok (.goto 6, 3) := by decide +kernel
theorem dL_count_12 : decode cL_count 12 = .ok (.astore_n 3, 1) := by decide +kernel
theorem dL_count_13 : decode cL_count 13 = .ok (.iconst 1, 1) := by decide +kernel
theorem dL_count_14 : decode cL_count 14 = .ok (.ireturn, 1) := by decide +kernel
theorem dL_count_15 : decode cL_count 15 = .ok (.iconst 0, 1) := by decide +kernel
theorem dL_count_16 : decode cL_count 16 = .ok (.ireturn, 1) := by decide +kernel
theorem dL_constraint_0 : decode cL_constraint 0 = .ok (.aload_n 3, 1) := by decide +kernel
theorem dL_constraint_1 : decode cL_constraint 1 = .ok (.iconst 0, 1) := by decide +kernel
theorem dL_constraint_2 : decode cL_constraint 2 = .ok (.aload_n 0, 1) := by decide +kernel
theorem dL_constraint_3 : decode cL_constraint 3 = .ok (.iload_n 1, 1) := by decide +kernel
theorem dL_constraint_4 : decode cL_constraint 4 = .ok (.iload_n 2, 1) := by decide +kernel
theorem dL_constraint_5 : decode cL_constraint 5 = .ok (.invokevirtual 39, 3) := by decide +kernel
theorem dL_constraint_8 : decode cL_constraint 8 = .ok (.i2l, 1) := by decide +kernel
theorem dL_constraint_9 : decode cL_constraint 9 = .ok (.lastore, 1) := by decide +kernel
theorem dL_constraint_10 : decode cL_constraint 10 = .ok (.goto 11, 3) := by decide +kernel
theorem dL_constraint_13 : decode cL_constraint 13 = .ok (.astore 4, 2) := by decide +kernel
theorem dL_constraint_15 : decode cL_constraint 15 = .ok (.iconst 1, 1) := by decide +kernel
theorem dL_constraint_16 : decode cL_constraint 16 = .ok (.ireturn, 1) := by decide +kernel
theorem dL_constraint_17 : decode cL_constraint 17 = .ok (.astore 4, 2) := by decide +kernel
theorem dL_constraint_19 : decode cL_constraint 19 = .ok (.iconst 2, 1) := by decide +kernel
theorem dL_constraint_20 : decode cL_constraint 20 = .ok (.ireturn, 1) := by decide +kernel
theorem dL_constraint_21 : decode cL_constraint 21 = .ok (.iconst 0, 1) := by decide +kernel
theorem dL_constraint_22 : decode cL_constraint 22 = .ok (.ireturn, 1) := by decide +kernel
theorem dL_variable_0 : decode cL_variable 0 = .ok (.aload_n 3, 1) := by decide +kernel
theorem dL_variable_1 : decode cL_variable 1 = .ok (.iconst 0, 1) := by decide +kernel
theorem dL_variable_2 : decode cL_variable 2 = .ok (.aload_n 0, 1) := by decide +kernel
theorem dL_variable_3 : decode cL_variable 3 = .ok (.iload_n 1, 1) := by decide +kernel
theorem dL_variable_4 : decode cL_variable 4 = .ok (.iload_n 2, 1) := by decide +kernel
theorem dL_variable_5 : decode cL_variable 5 = .ok (.invokevirtual 42, 3) := by decide +kernel
theorem dL_variable_8 : decode cL_variable 8 = .ok (.i2l, 1) := by decide +kernel
theorem dL_variable_9 : decode cL_variable 9 = .ok (.lastore, 1) := by decide +kernel
theorem dL_variable_10 : decode cL_variable 10 = .ok (.goto 11, 3) := by decide +kernel
theorem dL_variable_13 : decode cL_variable 13 = .ok (.astore 4, 2) := by decide +kernel
theorem dL_variable_15 : decode cL_variable 15 = .ok (.iconst 1, 1) := by decide +kernel
theorem dL_variable_16 : decode cL_variable 16 = .ok (.ireturn, 1) := by decide +kernel
theorem dL_variable_17 : decode cL_variable 17 = .ok (.astore 4, 2) := by decide +kernel
theorem dL_variable_19 : decode cL_variable 19 = .ok (.iconst 2, 1) := by decide +kernel
theorem dL_variable_20 : decode cL_variable 20 = .ok (.ireturn, 1) := by decide +kernel
theorem dL_variable_21 : decode cL_variable 21 = .ok (.iconst 0, 1) := by decide +kernel
theorem dL_variable_22 : decode cL_variable 22 = .ok (.ireturn, 1) := by decide +kernel
theorem dL_violation_0 : decode cL_violation 0 = .ok (.aload_n 3, 1) := by decide +kernel
theorem dL_violation_1 : decode cL_violation 1 = .ok (.iconst 0, 1) := by decide +kernel
theorem dL_violation_2 : decode cL_violation 2 = .ok (.aload_n 0, 1) := by decide +kernel
theorem dL_violation_3 : decode cL_violation 3 = .ok (.iload_n 1, 1) := by decide +kernel
theorem dL_violation_4 : decode cL_violation 4 = .ok (.iload_n 2, 1) := by decide +kernel
theorem dL_violation_5 : decode cL_violation 5 = .ok (.invokevirtual 45, 3) := by decide +kernel
theorem dL_violation_8 : decode cL_violation 8 = .ok (.i2l, 1) := by decide +kernel
theorem dL_violation_9 : decode cL_violation 9 = .ok (.lastore, 1) := by decide +kernel
theorem dL_violation_10 : decode cL_violation 10 = .ok (.goto 7, 3) := by decide +kernel
theorem dL_violation_13 : decode cL_violation 13 = .ok (.astore 4, 2) := by decide +kernel
theorem dL_violation_15 : decode cL_violation 15 = .ok (.iconst 1, 1) := by decide +kernel
theorem dL_violation_16 : decode cL_violation 16 = .ok (.ireturn, 1) := by decide +kernel
theorem dL_violation_17 : decode cL_violation 17 = .ok (.iconst 0, 1) := by decide +kernel
theorem dL_violation_18 : decode cL_violation 18 = .ok (.ireturn, 1) := by decide +kernel
theorem dL_mostBlamed_0 : decode cL_mostBlamed 0 = .ok (.aload_n 1, 1) := by decide +kernel
theorem dL_mostBlamed_1 : decode cL_mostBlamed 1 = .ok (.iconst 0, 1) := by decide +kernel
theorem dL_mostBlamed_2 : decode cL_mostBlamed 2 = .ok (.aload_n 0, 1) := by decide +kernel
theorem dL_mostBlamed_3 : decode cL_mostBlamed 3 = .ok (.invokevirtual 49, 3) := by decide +kernel
theorem dL_mostBlamed_6 : decode cL_mostBlamed 6 = .ok (.i2l, 1) := by decide +kernel
theorem dL_mostBlamed_7 : decode cL_mostBlamed 7 = .ok (.lastore, 1) := by decide +kernel
theorem dL_mostBlamed_8 : decode cL_mostBlamed 8 = .ok (.goto 6, 3) := by decide +kernel
theorem dL_mostBlamed_11 : decode cL_mostBlamed 11 = .ok (.astore_n 2, 1) := by decide +kernel
theorem dL_mostBlamed_12 : decode cL_mostBlamed 12 = .ok (.iconst 1, 1) := by decide +kernel
theorem dL_mostBlamed_13 : decode cL_mostBlamed 13 = .ok (.ireturn, 1) := by decide +kernel
theorem dL_mostBlamed_14 : decode cL_mostBlamed 14 = .ok (.iconst 0, 1) := by decide +kernel
theorem dL_mostBlamed_15 : decode cL_mostBlamed 15 = .ok (.ireturn, 1) := by decide +kernel
theorem dL_relief_0 : decode cL_relief 0 = .ok (.aload_n 2, 1) := by decide +kernel
theorem dL_relief_1 : decode cL_relief 1 = .ok (.iconst 0, 1) := by decide +kernel
theorem dL_relief_2 : decode cL_relief 2 = .ok (.aload_n 0, 1) := by decide +kernel
theorem dL_relief_3 : decode cL_relief 3 = .ok (.iload_n 1, 1) := by decide +kernel
theorem dL_relief_4 : decode cL_relief 4 = .ok (.invokevirtual 55, 3) := by decide +kernel
theorem dL_relief_7 : decode cL_relief 7 = .ok (.i2l, 1) := by decide +kernel
theorem dL_relief_8 : decode cL_relief 8 = .ok (.lastore, 1) := by decide +kernel
theorem dL_relief_9 : decode cL_relief 9 = .ok (.goto 6, 3) := by decide +kernel
theorem dL_relief_12 : decode cL_relief 12 = .ok (.astore_n 3, 1) := by decide +kernel
theorem dL_relief_13 : decode cL_relief 13 = .ok (.iconst 1, 1) := by decide +kernel
theorem dL_relief_14 : decode cL_relief 14 = .ok (.ireturn, 1) := by decide +kernel
theorem dL_relief_15 : decode cL_relief 15 = .ok (.iconst 0, 1) := by decide +kernel
theorem dL_relief_16 : decode cL_relief 16 = .ok (.ireturn, 1) := by decide +kernel
theorem dL_setNeighborhood_0 : decode cL_setNeighborhood 0 = .ok (.aload_n 2, 1) := by decide +kernel
theorem dL_setNeighborhood_1 : decode cL_setNeighborhood 1 = .ok (.iconst 0, 1) := by decide +kernel
theorem dL_setNeighborhood_2 : decode cL_setNeighborhood 2 = .ok (.aload_n 0, 1) := by decide +kernel
theorem dL_setNeighborhood_3 : decode cL_setNeighborhood 3 = .ok (.iload_n 1, 1) := by decide +kernel
theorem dL_setNeighborhood_4 : decode cL_setNeighborhood 4 = .ok (.invokevirtual 58, 3) := by decide +kernel
theorem dL_setNeighborhood_7 : decode cL_setNeighborhood 7 = .ok (.i2l, 1) := by decide +kernel
theorem dL_setNeighborhood_8 : decode cL_setNeighborhood 8 = .ok (.lastore, 1) := by decide +kernel
theorem dL_setNeighborhood_9 : decode cL_setNeighborhood 9 = .ok (.goto 6, 3) := by decide +kernel
theorem dL_setNeighborhood_12 : decode cL_setNeighborhood 12 = .ok (.astore_n 3, 1) := by decide +kernel
theorem dL_setNeighborhood_13 : decode cL_setNeighborhood 13 = .ok (.iconst 1, 1) := by decide +kernel
theorem dL_setNeighborhood_14 : decode cL_setNeighborhood 14 = .ok (.ireturn, 1) := by decide +kernel
theorem dL_setNeighborhood_15 : decode cL_setNeighborhood 15 = .ok (.iconst 0, 1) := by decide +kernel
theorem dL_setNeighborhood_16 : decode cL_setNeighborhood 16 = .ok (.ireturn, 1) := by decide +kernel
theorem dL_setTenure_0 : decode cL_setTenure 0 = .ok (.aload_n 2, 1) := by decide +kernel
theorem dL_setTenure_1 : decode cL_setTenure 1 = .ok (.iconst 0, 1) := by decide +kernel
theorem dL_setTenure_2 : decode cL_setTenure 2 = .ok (.aload_n 0, 1) := by decide +kernel
theorem dL_setTenure_3 : decode cL_setTenure 3 = .ok (.iload_n 1, 1) := by decide +kernel
theorem dL_setTenure_4 : decode cL_setTenure 4 = .ok (.invokevirtual 61, 3) := by decide +kernel
theorem dL_setTenure_7 : decode cL_setTenure 7 = .ok (.i2l, 1) := by decide +kernel
theorem dL_setTenure_8 : decode cL_setTenure 8 = .ok (.lastore, 1) := by decide +kernel
theorem dL_setTenure_9 : decode cL_setTenure 9 = .ok (.goto 6, 3) := by decide +kernel
theorem dL_setTenure_12 : decode cL_setTenure 12 = .ok (.astore_n 3, 1) := by decide +kernel
theorem dL_setTenure_13 : decode cL_setTenure 13 = .ok (.iconst 1, 1) := by decide +kernel
theorem dL_setTenure_14 : decode cL_setTenure 14 = .ok (.ireturn, 1) := by decide +kernel
theorem dL_setTenure_15 : decode cL_setTenure 15 = .ok (.iconst 0, 1) := by decide +kernel
theorem dL_setTenure_16 : decode cL_setTenure 16 = .ok (.ireturn, 1) := by decide +kernel
theorem dL_setPatience_0 : decode cL_setPatience 0 = .ok (.aload_n 2, 1) := by decide +kernel
theorem dL_setPatience_1 : decode cL_setPatience 1 = .ok (.iconst 0, 1) := by decide +kernel
theorem dL_setPatience_2 : decode cL_setPatience 2 = .ok (.aload_n 0, 1) := by decide +kernel
theorem dL_setPatience_3 : decode cL_setPatience 3 = .ok (.iload_n 1, 1) := by decide +kernel
theorem dL_setPatience_4 : decode cL_setPatience 4 = .ok (.invokevirtual 64, 3) := by decide +kernel
theorem dL_setPatience_7 : decode cL_setPatience 7 = .ok (.i2l, 1) := by decide +kernel
theorem dL_setPatience_8 : decode cL_setPatience 8 = .ok (.lastore, 1) := by decide +kernel
theorem dL_setPatience_9 : decode cL_setPatience 9 = .ok (.goto 6, 3) := by decide +kernel
theorem dL_setPatience_12 : decode cL_setPatience 12 = .ok (.astore_n 3, 1) := by decide +kernel
theorem dL_setPatience_13 : decode cL_setPatience 13 = .ok (.iconst 1, 1) := by decide +kernel
theorem dL_setPatience_14 : decode cL_setPatience 14 = .ok (.ireturn, 1) := by decide +kernel
theorem dL_setPatience_15 : decode cL_setPatience 15 = .ok (.iconst 0, 1) := by decide +kernel
theorem dL_setPatience_16 : decode cL_setPatience 16 = .ok (.ireturn, 1) := by decide +kernel
theorem dL_setSeed_0 : decode cL_setSeed 0 = .ok (.aload_n 2, 1) := by decide +kernel
theorem dL_setSeed_1 : decode cL_setSeed 1 = .ok (.iconst 0, 1) := by decide +kernel
theorem dL_setSeed_2 : decode cL_setSeed 2 = .ok (.aload_n 0, 1) := by decide +kernel
theorem dL_setSeed_3 : decode cL_setSeed 3 = .ok (.iload_n 1, 1) := by decide +kernel
theorem dL_setSeed_4 : decode cL_setSeed 4 = .ok (.invokevirtual 67, 3) := by decide +kernel
theorem dL_setSeed_7 : decode cL_setSeed 7 = .ok (.i2l, 1) := by decide +kernel
theorem dL_setSeed_8 : decode cL_setSeed 8 = .ok (.lastore, 1) := by decide +kernel
theorem dL_setSeed_9 : decode cL_setSeed 9 = .ok (.goto 6, 3) := by decide +kernel
theorem dL_setSeed_12 : decode cL_setSeed 12 = .ok (.astore_n 3, 1) := by decide +kernel
theorem dL_setSeed_13 : decode cL_setSeed 13 = .ok (.iconst 1, 1) := by decide +kernel
theorem dL_setSeed_14 : decode cL_setSeed 14 = .ok (.ireturn, 1) := by decide +kernel
theorem dL_setSeed_15 : decode cL_setSeed 15 = .ok (.iconst 0, 1) := by decide +kernel
theorem dL_setSeed_16 : decode cL_setSeed 16 = .ok (.ireturn, 1) := by decide +kernel
theorem dL_move_0 : decode cL_move 0 = .ok (.aload_n 3, 1) := by decide +kernel
theorem dL_move_1 : decode cL_move 1 = .ok (.iconst 0, 1) := by decide +kernel
theorem dL_move_2 : decode cL_move 2 = .ok (.aload_n 0, 1) := by decide +kernel
theorem dL_move_3 : decode cL_move 3 = .ok (.iload_n 1, 1) := by decide +kernel
theorem dL_move_4 : decode cL_move 4 = .ok (.iload_n 2, 1) := by decide +kernel
theorem dL_move_5 : decode cL_move 5 = .ok (.invokevirtual 70, 3) := by decide +kernel
theorem dL_move_8 : decode cL_move 8 = .ok (.i2l, 1) := by decide +kernel
theorem dL_move_9 : decode cL_move 9 = .ok (.lastore, 1) := by decide +kernel
theorem dL_move_10 : decode cL_move 10 = .ok (.goto 11, 3) := by decide +kernel
theorem dL_move_13 : decode cL_move 13 = .ok (.astore 4, 2) := by decide +kernel
theorem dL_move_15 : decode cL_move 15 = .ok (.iconst 1, 1) := by decide +kernel
theorem dL_move_16 : decode cL_move 16 = .ok (.ireturn, 1) := by decide +kernel
theorem dL_move_17 : decode cL_move 17 = .ok (.astore 4, 2) := by decide +kernel
theorem dL_move_19 : decode cL_move 19 = .ok (.iconst 2, 1) := by decide +kernel
theorem dL_move_20 : decode cL_move 20 = .ok (.ireturn, 1) := by decide +kernel
theorem dL_move_21 : decode cL_move 21 = .ok (.iconst 0, 1) := by decide +kernel
theorem dL_move_22 : decode cL_move 22 = .ok (.ireturn, 1) := by decide +kernel
theorem dL_nextMove_0 : decode cL_nextMove 0 = .ok (.aload_n 1, 1) := by decide +kernel
theorem dL_nextMove_1 : decode cL_nextMove 1 = .ok (.iconst 0, 1) := by decide +kernel
theorem dL_nextMove_2 : decode cL_nextMove 2 = .ok (.aload_n 0, 1) := by decide +kernel
theorem dL_nextMove_3 : decode cL_nextMove 3 = .ok (.invokevirtual 73, 3) := by decide +kernel
theorem dL_nextMove_6 : decode cL_nextMove 6 = .ok (.i2l, 1) := by decide +kernel
theorem dL_nextMove_7 : decode cL_nextMove 7 = .ok (.lastore, 1) := by decide +kernel
theorem dL_nextMove_8 : decode cL_nextMove 8 = .ok (.goto 6, 3) := by decide +kernel
theorem dL_nextMove_11 : decode cL_nextMove 11 = .ok (.astore_n 2, 1) := by decide +kernel
theorem dL_nextMove_12 : decode cL_nextMove 12 = .ok (.iconst 1, 1) := by decide +kernel
theorem dL_nextMove_13 : decode cL_nextMove 13 = .ok (.ireturn, 1) := by decide +kernel
theorem dL_nextMove_14 : decode cL_nextMove 14 = .ok (.iconst 0, 1) := by decide +kernel
theorem dL_nextMove_15 : decode cL_nextMove 15 = .ok (.ireturn, 1) := by decide +kernel
theorem dL_isForbidden_0 : decode cL_isForbidden 0 = .ok (.aload_n 3, 1) := by decide +kernel
theorem dL_isForbidden_1 : decode cL_isForbidden 1 = .ok (.iconst 0, 1) := by decide +kernel
theorem dL_isForbidden_2 : decode cL_isForbidden 2 = .ok (.aload_n 0, 1) := by decide +kernel
theorem dL_isForbidden_3 : decode cL_isForbidden 3 = .ok (.iload_n 1, 1) := by decide +kernel
theorem dL_isForbidden_4 : decode cL_isForbidden 4 = .ok (.iload_n 2, 1) := by decide +kernel
theorem dL_isForbidden_5 : decode cL_isForbidden 5 = .ok (.invokevirtual 76, 3) := by decide +kernel
theorem dL_isForbidden_8 : decode cL_isForbidden 8 = .ok (.ifCond .eq 7, 3) := by decide +kernel
theorem dL_isForbidden_11 : decode cL_isForbidden 11 = .ok (.lconst 1, 1) := by decide +kernel
theorem dL_isForbidden_12 : decode cL_isForbidden 12 = .ok (.goto 4, 3) := by decide +kernel
theorem dL_isForbidden_15 : decode cL_isForbidden 15 = .ok (.lconst 0, 1) := by decide +kernel
theorem dL_isForbidden_16 : decode cL_isForbidden 16 = .ok (.lastore, 1) := by decide +kernel
theorem dL_isForbidden_17 : decode cL_isForbidden 17 = .ok (.goto 11, 3) := by decide +kernel
theorem dL_isForbidden_20 : decode cL_isForbidden 20 = .ok (.astore 4, 2) := by decide +kernel
theorem dL_isForbidden_22 : decode cL_isForbidden 22 = .ok (.iconst 1, 1) := by decide +kernel
theorem dL_isForbidden_23 : decode cL_isForbidden 23 = .ok (.ireturn, 1) := by decide +kernel
theorem dL_isForbidden_24 : decode cL_isForbidden 24 = .ok (.astore 4, 2) := by decide +kernel
theorem dL_isForbidden_26 : decode cL_isForbidden 26 = .ok (.iconst 2, 1) := by decide +kernel
theorem dL_isForbidden_27 : decode cL_isForbidden 27 = .ok (.ireturn, 1) := by decide +kernel
theorem dL_isForbidden_28 : decode cL_isForbidden 28 = .ok (.iconst 0, 1) := by decide +kernel
theorem dL_isForbidden_29 : decode cL_isForbidden 29 = .ok (.ireturn, 1) := by decide +kernel
theorem dL_step_0 : decode cL_step 0 = .ok (.aload_n 1, 1) := by decide +kernel
theorem dL_step_1 : decode cL_step 1 = .ok (.iconst 0, 1) := by decide +kernel
theorem dL_step_2 : decode cL_step 2 = .ok (.aload_n 0, 1) := by decide +kernel
theorem dL_step_3 : decode cL_step 3 = .ok (.invokevirtual 80, 3) := by decide +kernel
theorem dL_step_6 : decode cL_step 6 = .ok (.i2l, 1) := by decide +kernel
theorem dL_step_7 : decode cL_step 7 = .ok (.lastore, 1) := by decide +kernel
theorem dL_step_8 : decode cL_step 8 = .ok (.goto 6, 3) := by decide +kernel
theorem dL_step_11 : decode cL_step 11 = .ok (.astore_n 2, 1) := by decide +kernel
theorem dL_step_12 : decode cL_step 12 = .ok (.iconst 1, 1) := by decide +kernel
theorem dL_step_13 : decode cL_step 13 = .ok (.ireturn, 1) := by decide +kernel
theorem dL_step_14 : decode cL_step 14 = .ok (.iconst 0, 1) := by decide +kernel
theorem dL_step_15 : decode cL_step 15 = .ok (.ireturn, 1) := by decide +kernel
theorem dL_run_0 : decode cL_run 0 = .ok (.aload_n 2, 1) := by decide +kernel
theorem dL_run_1 : decode cL_run 1 = .ok (.iconst 0, 1) := by decide +kernel
theorem dL_run_2 : decode cL_run 2 = .ok (.aload_n 0, 1) := by decide +kernel
theorem dL_run_3 : decode cL_run 3 = .ok (.iload_n 1, 1) := by decide +kernel
theorem dL_run_4 : decode cL_run 4 = .ok (.invokevirtual 83, 3) := by decide +kernel
theorem dL_run_7 : decode cL_run 7 = .ok (.i2l, 1) := by decide +kernel
theorem dL_run_8 : decode cL_run 8 = .ok (.lastore, 1) := by decide +kernel
theorem dL_run_9 : decode cL_run 9 = .ok (.goto 6, 3) := by decide +kernel
theorem dL_run_12 : decode cL_run 12 = .ok (.astore_n 3, 1) := by decide +kernel
theorem dL_run_13 : decode cL_run 13 = .ok (.iconst 1, 1) := by decide +kernel
theorem dL_run_14 : decode cL_run 14 = .ok (.ireturn, 1) := by decide +kernel
theorem dL_run_15 : decode cL_run 15 = .ok (.iconst 0, 1) := by decide +kernel
theorem dL_run_16 : decode cL_run 16 = .ok (.ireturn, 1) := by decide +kernel
theorem dL_search_0 : decode cL_search 0 = .ok (.aload_n 2, 1) := by decide +kernel
theorem dL_search_1 : decode cL_search 1 = .ok (.iconst 0, 1) := by decide +kernel
theorem dL_search_2 : decode cL_search 2 = .ok (.aload_n 0, 1) := by decide +kernel
theorem dL_search_3 : decode cL_search 3 = .ok (.iload_n 1, 1) := by decide +kernel
theorem dL_search_4 : decode cL_search 4 = .ok (.invokevirtual 86, 3) := by decide +kernel
theorem dL_search_7 : decode cL_search 7 = .ok (.i2l, 1) := by decide +kernel
theorem dL_search_8 : decode cL_search 8 = .ok (.lastore, 1) := by decide +kernel
theorem dL_search_9 : decode cL_search 9 = .ok (.goto 6, 3) := by decide +kernel
theorem dL_search_12 : decode cL_search 12 = .ok (.astore_n 3, 1) := by decide +kernel
theorem dL_search_13 : decode cL_search 13 = .ok (.iconst 1, 1) := by decide +kernel
theorem dL_search_14 : decode cL_search 14 = .ok (.ireturn, 1) := by decide +kernel
theorem dL_search_15 : decode cL_search 15 = .ok (.iconst 0, 1) := by decide +kernel
theorem dL_search_16 : decode cL_search 16 = .ok (.ireturn, 1) := by decide +kernel
theorem dL_log_0 : decode cL_log 0 = .ok (.aload_n 3, 1) := by decide +kernel
theorem dL_log_1 : decode cL_log 1 = .ok (.iconst 0, 1) := by decide +kernel
theorem dL_log_2 : decode cL_log 2 = .ok (.aload_n 0, 1) := by decide +kernel
theorem dL_log_3 : decode cL_log 3 = .ok (.iload_n 1, 1) := by decide +kernel
theorem dL_log_4 : decode cL_log 4 = .ok (.iload_n 2, 1) := by decide +kernel
theorem dL_log_5 : decode cL_log 5 = .ok (.invokevirtual 89, 3) := by decide +kernel
theorem dL_log_8 : decode cL_log 8 = .ok (.i2l, 1) := by decide +kernel
theorem dL_log_9 : decode cL_log 9 = .ok (.lastore, 1) := by decide +kernel
theorem dL_log_10 : decode cL_log 10 = .ok (.goto 11, 3) := by decide +kernel
theorem dL_log_13 : decode cL_log 13 = .ok (.astore 4, 2) := by decide +kernel
theorem dL_log_15 : decode cL_log 15 = .ok (.iconst 1, 1) := by decide +kernel
theorem dL_log_16 : decode cL_log 16 = .ok (.ireturn, 1) := by decide +kernel
theorem dL_log_17 : decode cL_log 17 = .ok (.astore 4, 2) := by decide +kernel
theorem dL_log_19 : decode cL_log 19 = .ok (.iconst 2, 1) := by decide +kernel
theorem dL_log_20 : decode cL_log 20 = .ok (.ireturn, 1) := by decide +kernel
theorem dL_log_21 : decode cL_log 21 = .ok (.iconst 0, 1) := by decide +kernel
theorem dL_log_22 : decode cL_log 22 = .ok (.ireturn, 1) := by decide +kernel
theorem dL_improvingShare_0 : decode cL_improvingShare 0 = .ok (.aload_n 1, 1) := by decide +kernel
theorem dL_improvingShare_1 : decode cL_improvingShare 1 = .ok (.iconst 0, 1) := by decide +kernel
theorem dL_improvingShare_2 : decode cL_improvingShare 2 = .ok (.aload_n 0, 1) := by decide +kernel
theorem dL_improvingShare_3 : decode cL_improvingShare 3 = .ok (.invokevirtual 92, 3) := by decide +kernel
theorem dL_improvingShare_6 : decode cL_improvingShare 6 = .ok (.dastore, 1) := by decide +kernel
theorem dL_improvingShare_7 : decode cL_improvingShare 7 = .ok (.goto 6, 3) := by decide +kernel
theorem dL_improvingShare_10 : decode cL_improvingShare 10 = .ok (.astore_n 2, 1) := by decide +kernel
theorem dL_improvingShare_11 : decode cL_improvingShare 11 = .ok (.iconst 1, 1) := by decide +kernel
theorem dL_improvingShare_12 : decode cL_improvingShare 12 = .ok (.ireturn, 1) := by decide +kernel
theorem dL_improvingShare_13 : decode cL_improvingShare 13 = .ok (.iconst 0, 1) := by decide +kernel
theorem dL_improvingShare_14 : decode cL_improvingShare 14 = .ok (.ireturn, 1) := by decide +kernel
theorem dL_optimum_0 : decode cL_optimum 0 = .ok (.aload_n 1, 1) := by decide +kernel
theorem dL_optimum_1 : decode cL_optimum 1 = .ok (.iconst 0, 1) := by decide +kernel
theorem dL_optimum_2 : decode cL_optimum 2 = .ok (.aload_n 0, 1) := by decide +kernel
theorem dL_optimum_3 : decode cL_optimum 3 = .ok (.invokevirtual 98, 3) := by decide +kernel
theorem dL_optimum_6 : decode cL_optimum 6 = .ok (.i2l, 1) := by decide +kernel
theorem dL_optimum_7 : decode cL_optimum 7 = .ok (.lastore, 1) := by decide +kernel
theorem dL_optimum_8 : decode cL_optimum 8 = .ok (.goto 6, 3) := by decide +kernel
theorem dL_optimum_11 : decode cL_optimum 11 = .ok (.astore_n 2, 1) := by decide +kernel
theorem dL_optimum_12 : decode cL_optimum 12 = .ok (.iconst 1, 1) := by decide +kernel
theorem dL_optimum_13 : decode cL_optimum 13 = .ok (.ireturn, 1) := by decide +kernel
theorem dL_optimum_14 : decode cL_optimum 14 = .ok (.iconst 0, 1) := by decide +kernel
theorem dL_optimum_15 : decode cL_optimum 15 = .ok (.ireturn, 1) := by decide +kernel
theorem dL_optima_0 : decode cL_optima 0 = .ok (.aload_n 1, 1) := by decide +kernel
theorem dL_optima_1 : decode cL_optima 1 = .ok (.iconst 0, 1) := by decide +kernel
theorem dL_optima_2 : decode cL_optima 2 = .ok (.aload_n 0, 1) := by decide +kernel
theorem dL_optima_3 : decode cL_optima 3 = .ok (.invokevirtual 101, 3) := by decide +kernel
theorem dL_optima_6 : decode cL_optima 6 = .ok (.i2l, 1) := by decide +kernel
theorem dL_optima_7 : decode cL_optima 7 = .ok (.lastore, 1) := by decide +kernel
theorem dL_optima_8 : decode cL_optima 8 = .ok (.goto 6, 3) := by decide +kernel
theorem dL_optima_11 : decode cL_optima 11 = .ok (.astore_n 2, 1) := by decide +kernel
theorem dL_optima_12 : decode cL_optima 12 = .ok (.iconst 1, 1) := by decide +kernel
theorem dL_optima_13 : decode cL_optima 13 = .ok (.ireturn, 1) := by decide +kernel
theorem dL_optima_14 : decode cL_optima 14 = .ok (.iconst 0, 1) := by decide +kernel
theorem dL_optima_15 : decode cL_optima 15 = .ok (.ireturn, 1) := by decide +kernel
theorem dL_optimalValue_0 : decode cL_optimalValue 0 = .ok (.aload_n 2, 1) := by decide +kernel
theorem dL_optimalValue_1 : decode cL_optimalValue 1 = .ok (.iconst 0, 1) := by decide +kernel
theorem dL_optimalValue_2 : decode cL_optimalValue 2 = .ok (.aload_n 0, 1) := by decide +kernel
theorem dL_optimalValue_3 : decode cL_optimalValue 3 = .ok (.iload_n 1, 1) := by decide +kernel
theorem dL_optimalValue_4 : decode cL_optimalValue 4 = .ok (.invokevirtual 104, 3) := by decide +kernel
theorem dL_optimalValue_7 : decode cL_optimalValue 7 = .ok (.i2l, 1) := by decide +kernel
theorem dL_optimalValue_8 : decode cL_optimalValue 8 = .ok (.lastore, 1) := by decide +kernel
theorem dL_optimalValue_9 : decode cL_optimalValue 9 = .ok (.goto 9, 3) := by decide +kernel
theorem dL_optimalValue_12 : decode cL_optimalValue 12 = .ok (.astore_n 3, 1) := by decide +kernel
theorem dL_optimalValue_13 : decode cL_optimalValue 13 = .ok (.iconst 1, 1) := by decide +kernel
theorem dL_optimalValue_14 : decode cL_optimalValue 14 = .ok (.ireturn, 1) := by decide +kernel
theorem dL_optimalValue_15 : decode cL_optimalValue 15 = .ok (.astore_n 3, 1) := by decide +kernel
theorem dL_optimalValue_16 : decode cL_optimalValue 16 = .ok (.iconst 2, 1) := by decide +kernel
theorem dL_optimalValue_17 : decode cL_optimalValue 17 = .ok (.ireturn, 1) := by decide +kernel
theorem dL_optimalValue_18 : decode cL_optimalValue 18 = .ok (.iconst 0, 1) := by decide +kernel
theorem dL_optimalValue_19 : decode cL_optimalValue 19 = .ok (.ireturn, 1) := by decide +kernel
theorem dL_worst_0 : decode cL_worst 0 = .ok (.aload_n 1, 1) := by decide +kernel
theorem dL_worst_1 : decode cL_worst 1 = .ok (.iconst 0, 1) := by decide +kernel
theorem dL_worst_2 : decode cL_worst 2 = .ok (.aload_n 0, 1) := by decide +kernel
theorem dL_worst_3 : decode cL_worst 3 = .ok (.invokevirtual 107, 3) := by decide +kernel
theorem dL_worst_6 : decode cL_worst 6 = .ok (.i2l, 1) := by decide +kernel
theorem dL_worst_7 : decode cL_worst 7 = .ok (.lastore, 1) := by decide +kernel
theorem dL_worst_8 : decode cL_worst 8 = .ok (.goto 6, 3) := by decide +kernel
theorem dL_worst_11 : decode cL_worst 11 = .ok (.astore_n 2, 1) := by decide +kernel
theorem dL_worst_12 : decode cL_worst 12 = .ok (.iconst 1, 1) := by decide +kernel
theorem dL_worst_13 : decode cL_worst 13 = .ok (.ireturn, 1) := by decide +kernel
theorem dL_worst_14 : decode cL_worst 14 = .ok (.iconst 0, 1) := by decide +kernel
theorem dL_worst_15 : decode cL_worst 15 = .ok (.ireturn, 1) := by decide +kernel
theorem dL_unavoidable_0 : decode cL_unavoidable 0 = .ok (.aload_n 1, 1) := by decide +kernel
theorem dL_unavoidable_1 : decode cL_unavoidable 1 = .ok (.iconst 0, 1) := by decide +kernel
theorem dL_unavoidable_2 : decode cL_unavoidable 2 = .ok (.aload_n 0, 1) := by decide +kernel
theorem dL_unavoidable_3 : decode cL_unavoidable 3 = .ok (.invokevirtual 110, 3) := by decide +kernel
theorem dL_unavoidable_6 : decode cL_unavoidable 6 = .ok (.i2l, 1) := by decide +kernel
theorem dL_unavoidable_7 : decode cL_unavoidable 7 = .ok (.lastore, 1) := by decide +kernel
theorem dL_unavoidable_8 : decode cL_unavoidable 8 = .ok (.goto 6, 3) := by decide +kernel
theorem dL_unavoidable_11 : decode cL_unavoidable 11 = .ok (.astore_n 2, 1) := by decide +kernel
theorem dL_unavoidable_12 : decode cL_unavoidable 12 = .ok (.iconst 1, 1) := by decide +kernel
theorem dL_unavoidable_13 : decode cL_unavoidable 13 = .ok (.ireturn, 1) := by decide +kernel
theorem dL_unavoidable_14 : decode cL_unavoidable 14 = .ok (.iconst 0, 1) := by decide +kernel
theorem dL_unavoidable_15 : decode cL_unavoidable 15 = .ok (.ireturn, 1) := by decide +kernel
theorem dL_append_0 : decode cL_append 0 = .ok (.aload_n 2, 1) := by decide +kernel
theorem dL_append_1 : decode cL_append 1 = .ok (.iconst 0, 1) := by decide +kernel
theorem dL_append_2 : decode cL_append 2 = .ok (.aload_n 0, 1) := by decide +kernel
theorem dL_append_3 : decode cL_append 3 = .ok (.iload_n 1, 1) := by decide +kernel
theorem dL_append_4 : decode cL_append 4 = .ok (.invokevirtual 113, 3) := by decide +kernel
theorem dL_append_7 : decode cL_append 7 = .ok (.i2l, 1) := by decide +kernel
theorem dL_append_8 : decode cL_append 8 = .ok (.lastore, 1) := by decide +kernel
theorem dL_append_9 : decode cL_append 9 = .ok (.goto 9, 3) := by decide +kernel
theorem dL_append_12 : decode cL_append 12 = .ok (.astore_n 3, 1) := by decide +kernel
theorem dL_append_13 : decode cL_append 13 = .ok (.iconst 1, 1) := by decide +kernel
theorem dL_append_14 : decode cL_append 14 = .ok (.ireturn, 1) := by decide +kernel
theorem dL_append_15 : decode cL_append 15 = .ok (.astore_n 3, 1) := by decide +kernel
theorem dL_append_16 : decode cL_append 16 = .ok (.iconst 2, 1) := by decide +kernel
theorem dL_append_17 : decode cL_append 17 = .ok (.ireturn, 1) := by decide +kernel
theorem dL_append_18 : decode cL_append 18 = .ok (.iconst 0, 1) := by decide +kernel
theorem dL_append_19 : decode cL_append 19 = .ok (.ireturn, 1) := by decide +kernel
theorem dL_read_0 : decode cL_read 0 = .ok (.aload_n 1, 1) := by decide +kernel
theorem dL_read_1 : decode cL_read 1 = .ok (.iconst 0, 1) := by decide +kernel
theorem dL_read_2 : decode cL_read 2 = .ok (.aload_n 0, 1) := by decide +kernel
theorem dL_read_3 : decode cL_read 3 = .ok (.invokevirtual 117, 3) := by decide +kernel
theorem dL_read_6 : decode cL_read 6 = .ok (.i2l, 1) := by decide +kernel
theorem dL_read_7 : decode cL_read 7 = .ok (.lastore, 1) := by decide +kernel
theorem dL_read_8 : decode cL_read 8 = .ok (.goto 9, 3) := by decide +kernel
theorem dL_read_11 : decode cL_read 11 = .ok (.astore_n 2, 1) := by decide +kernel
theorem dL_read_12 : decode cL_read 12 = .ok (.iconst 1, 1) := by decide +kernel
theorem dL_read_13 : decode cL_read 13 = .ok (.ireturn, 1) := by decide +kernel
theorem dL_read_14 : decode cL_read 14 = .ok (.astore_n 2, 1) := by decide +kernel
theorem dL_read_15 : decode cL_read 15 = .ok (.iconst 2, 1) := by decide +kernel
theorem dL_read_16 : decode cL_read 16 = .ok (.ireturn, 1) := by decide +kernel
theorem dL_read_17 : decode cL_read 17 = .ok (.iconst 0, 1) := by decide +kernel
theorem dL_read_18 : decode cL_read 18 = .ok (.ireturn, 1) := by decide +kernel
theorem dL_errorPosition_0 : decode cL_errorPosition 0 = .ok (.aload_n 1, 1) := by decide +kernel
theorem dL_errorPosition_1 : decode cL_errorPosition 1 = .ok (.iconst 0, 1) := by decide +kernel
theorem dL_errorPosition_2 : decode cL_errorPosition 2 = .ok (.aload_n 0, 1) := by decide +kernel
theorem dL_errorPosition_3 : decode cL_errorPosition 3 = .ok (.invokevirtual 120, 3) := by decide +kernel
theorem dL_errorPosition_6 : decode cL_errorPosition 6 = .ok (.i2l, 1) := by decide +kernel
theorem dL_errorPosition_7 : decode cL_errorPosition 7 = .ok (.lastore, 1) := by decide +kernel
theorem dL_errorPosition_8 : decode cL_errorPosition 8 = .ok (.goto 6, 3) := by decide +kernel
theorem dL_errorPosition_11 : decode cL_errorPosition 11 = .ok (.astore_n 2, 1) := by decide +kernel
theorem dL_errorPosition_12 : decode cL_errorPosition 12 = .ok (.iconst 1, 1) := by decide +kernel
theorem dL_errorPosition_13 : decode cL_errorPosition 13 = .ok (.ireturn, 1) := by decide +kernel
theorem dL_errorPosition_14 : decode cL_errorPosition 14 = .ok (.iconst 0, 1) := by decide +kernel
theorem dL_errorPosition_15 : decode cL_errorPosition 15 = .ok (.ireturn, 1) := by decide +kernel
theorem dL_describe_0 : decode cL_describe 0 = .ok (.aload_n 3, 1) := by decide +kernel
theorem dL_describe_1 : decode cL_describe 1 = .ok (.iconst 0, 1) := by decide +kernel
theorem dL_describe_2 : decode cL_describe 2 = .ok (.aload_n 0, 1) := by decide +kernel
theorem dL_describe_3 : decode cL_describe 3 = .ok (.iload_n 1, 1) := by decide +kernel
theorem dL_describe_4 : decode cL_describe 4 = .ok (.iload_n 2, 1) := by decide +kernel
theorem dL_describe_5 : decode cL_describe 5 = .ok (.invokevirtual 123, 3) := by decide +kernel
theorem dL_describe_8 : decode cL_describe 8 = .ok (.i2l, 1) := by decide +kernel
theorem dL_describe_9 : decode cL_describe 9 = .ok (.lastore, 1) := by decide +kernel
theorem dL_describe_10 : decode cL_describe 10 = .ok (.goto 11, 3) := by decide +kernel
theorem dL_describe_13 : decode cL_describe 13 = .ok (.astore 4, 2) := by decide +kernel
theorem dL_describe_15 : decode cL_describe 15 = .ok (.iconst 1, 1) := by decide +kernel
theorem dL_describe_16 : decode cL_describe 16 = .ok (.ireturn, 1) := by decide +kernel
theorem dL_describe_17 : decode cL_describe 17 = .ok (.astore 4, 2) := by decide +kernel
theorem dL_describe_19 : decode cL_describe 19 = .ok (.iconst 2, 1) := by decide +kernel
theorem dL_describe_20 : decode cL_describe 20 = .ok (.ireturn, 1) := by decide +kernel
theorem dL_describe_21 : decode cL_describe 21 = .ok (.iconst 0, 1) := by decide +kernel
theorem dL_describe_22 : decode cL_describe 22 = .ok (.ireturn, 1) := by decide +kernel
theorem dL_undo_0 : decode cL_undo 0 = .ok (.aload_n 1, 1) := by decide +kernel
theorem dL_undo_1 : decode cL_undo 1 = .ok (.iconst 0, 1) := by decide +kernel
theorem dL_undo_2 : decode cL_undo 2 = .ok (.aload_n 0, 1) := by decide +kernel
theorem dL_undo_3 : decode cL_undo 3 = .ok (.invokevirtual 126, 3) := by decide +kernel
theorem dL_undo_6 : decode cL_undo 6 = .ok (.i2l, 1) := by decide +kernel
theorem dL_undo_7 : decode cL_undo 7 = .ok (.lastore, 1) := by decide +kernel
theorem dL_undo_8 : decode cL_undo 8 = .ok (.goto 6, 3) := by decide +kernel
theorem dL_undo_11 : decode cL_undo 11 = .ok (.astore_n 2, 1) := by decide +kernel
theorem dL_undo_12 : decode cL_undo 12 = .ok (.iconst 1, 1) := by decide +kernel
theorem dL_undo_13 : decode cL_undo 13 = .ok (.ireturn, 1) := by decide +kernel
theorem dL_undo_14 : decode cL_undo 14 = .ok (.iconst 0, 1) := by decide +kernel
theorem dL_undo_15 : decode cL_undo 15 = .ok (.ireturn, 1) := by decide +kernel
theorem dL_restore_0 : decode cL_restore 0 = .ok (.aload_n 1, 1) := by decide +kernel
theorem dL_restore_1 : decode cL_restore 1 = .ok (.iconst 0, 1) := by decide +kernel
theorem dL_restore_2 : decode cL_restore 2 = .ok (.aload_n 0, 1) := by decide +kernel
theorem dL_restore_3 : decode cL_restore 3 = .ok (.invokevirtual 129, 3) := by decide +kernel
theorem dL_restore_6 : decode cL_restore 6 = .ok (.i2l, 1) := by decide +kernel
theorem dL_restore_7 : decode cL_restore 7 = .ok (.lastore, 1) := by decide +kernel
theorem dL_restore_8 : decode cL_restore 8 = .ok (.goto 6, 3) := by decide +kernel
theorem dL_restore_11 : decode cL_restore 11 = .ok (.astore_n 2, 1) := by decide +kernel
theorem dL_restore_12 : decode cL_restore 12 = .ok (.iconst 1, 1) := by decide +kernel
theorem dL_restore_13 : decode cL_restore 13 = .ok (.ireturn, 1) := by decide +kernel
theorem dL_restore_14 : decode cL_restore 14 = .ok (.iconst 0, 1) := by decide +kernel
theorem dL_restore_15 : decode cL_restore 15 = .ok (.ireturn, 1) := by decide +kernel
theorem ml_L_7 : Cond.methodLink RL 7 yX9_addVariable ∈ AW := aw_3 72 (by decide +kernel)
theorem gw_L_addVariable : GW yL_addVariable cL_addVariable 4 (some .int) [(0, 9, 12, 13), (0, 9, 15, 15)] 3 := ⟨aw_3 69 (by decide +kernel), aw_1 0 (by decide +kernel), by decide +kernel, by decide +kernel, aw_3 68 (by decide +kernel)⟩
theorem cl_L_13 : Cond.classLink RL 13 "java/lang/IllegalArgumentException" ∈ AW := aw_3 70 (by decide +kernel)
theorem cl_L_15 : Cond.classLink RL 15 "java/lang/IllegalStateException" ∈ AW := aw_3 71 (by decide +kernel)
theorem g_X9_addVariable : GV yX9_addVariable cX9_addVariable 2 (Option.some Jvm.ClassFile.FieldType.int) 1 := ⟨⟨aw_3 75 (by decide +kernel), aw_1 1 (by decide +kernel), by decide +kernel, by decide +kernel⟩, aw_3 73 (by decide +kernel), aw_3 74 (by decide +kernel)⟩
theorem ml_L_17 : Cond.methodLink RL 17 yX9_setDomain ∈ AW := aw_3 209 (by decide +kernel)
theorem gw_L_setDomain : GW yL_setDomain cL_setDomain 5 (some .int) [(0, 10, 13, 21), (0, 10, 17, 13)] 4 := ⟨aw_3 175 (by decide +kernel), aw_1 0 (by decide +kernel), by decide +kernel, by decide +kernel, aw_3 174 (by decide +kernel)⟩
theorem cl_L_21 : Cond.classLink RL 21 "java/lang/IndexOutOfBoundsException" ∈ AW := aw_3 176 (by decide +kernel)
theorem g_X9_setDomain : GV yX9_setDomain cX9_setDomain 4 (Option.some Jvm.ClassFile.FieldType.int) 2 := ⟨⟨aw_3 212 (by decide +kernel), aw_1 1 (by decide +kernel), by decide +kernel, by decide +kernel⟩, aw_3 210 (by decide +kernel), aw_3 211 (by decide +kernel)⟩
theorem ml_L_23 : Cond.methodLink RL 23 yX9_addConstraint ∈ AW := aw_3 238 (by decide +kernel)
theorem gw_L_addConstraint : GW yL_addConstraint cL_addConstraint 7 (some .int) [(0, 14, 17, 13), (0, 14, 21, 15)] 6 := ⟨aw_3 237 (by decide +kernel), aw_1 0 (by decide +kernel), by decide +kernel, by decide +kernel, aw_3 236 (by decide +kernel)⟩
theorem g_X9_addConstraint : GV yX9_addConstraint cX9_addConstraint 5 (Option.some Jvm.ClassFile.FieldType.int) 4 := ⟨⟨aw_4 1 (by decide +kernel), aw_1 1 (by decide +kernel), by decide +kernel, by decide +kernel⟩, aw_3 239 (by decide +kernel), aw_4 0 (by decide +kernel)⟩
theorem ml_L_27 : Cond.methodLink RL 27 yX9_removeConstraint ∈ AW := aw_4 18 (by decide +kernel)
theorem gw_L_removeConstraint : GW yL_removeConstraint cL_removeConstraint 4 (some .int) [(0, 9, 12, 21)] 3 := ⟨aw_4 17 (by decide +kernel), aw_1 0 (by decide +kernel), by decide +kernel, by decide +kernel, aw_4 16 (by decide +kernel)⟩
theorem g_X9_removeConstraint : GV yX9_removeConstraint cX9_removeConstraint 2 (Option.some Jvm.ClassFile.FieldType.int) 1 := ⟨⟨aw_4 21 (by decide +kernel), aw_1 1 (by decide +kernel), by decide +kernel, by decide +kernel⟩, aw_4 19 (by decide +kernel), aw_4 20 (by decide +kernel)⟩
theorem ml_L_30 : Cond.methodLink RL 30 yX9_setWeight ∈ AW := aw_4 33 (by decide +kernel)
theorem gw_L_setWeight : GW yL_setWeight cL_setWeight 5 (some .int) [(0, 10, 13, 21), (0, 10, 17, 13)] 4 := ⟨aw_4 32 (by decide +kernel), aw_1 0 (by decide +kernel), by decide +kernel, by decide +kernel, aw_4 31 (by decide +kernel)⟩
theorem g_X9_setWeight : GV yX9_setWeight cX9_setWeight 4 (Option.some Jvm.ClassFile.FieldType.int) 2 := ⟨⟨aw_4 36 (by decide +kernel), aw_1 1 (by decide +kernel), by decide +kernel, by decide +kernel⟩, aw_4 34 (by decide +kernel), aw_4 35 (by decide +kernel)⟩
theorem ml_L_33 : Cond.methodLink RL 33 yX9_setValue ∈ AW := aw_4 40 (by decide +kernel)
theorem gw_L_setValue : GW yL_setValue cL_setValue 5 (some .int) [(0, 10, 13, 21), (0, 10, 17, 13)] 4 := ⟨aw_4 39 (by decide +kernel), aw_1 0 (by decide +kernel), by decide +kernel, by decide +kernel, aw_4 38 (by decide +kernel)⟩
theorem g_X9_setValue : GV yX9_setValue cX9_setValue 4 (Option.some Jvm.ClassFile.FieldType.int) 2 := ⟨⟨aw_4 43 (by decide +kernel), aw_1 1 (by decide +kernel), by decide +kernel, by decide +kernel⟩, aw_4 41 (by decide +kernel), aw_4 42 (by decide +kernel)⟩
theorem ml_L_36 : Cond.methodLink RL 36 yX9_count ∈ AW := aw_4 47 (by decide +kernel)
theorem gw_L_count : GW yL_count cL_count 4 (some .int) [(0, 9, 12, 13)] 3 := ⟨aw_4 46 (by decide +kernel), aw_1 0 (by decide +kernel), by decide +kernel, by decide +kernel, aw_4 45 (by decide +kernel)⟩
theorem g_X9_count : GV yX9_count cX9_count 2 (Option.some Jvm.ClassFile.FieldType.int) 1 := ⟨⟨aw_4 50 (by decide +kernel), aw_1 1 (by decide +kernel), by decide +kernel, by decide +kernel⟩, aw_4 48 (by decide +kernel), aw_4 49 (by decide +kernel)⟩
theorem ml_L_39 : Cond.methodLink RL 39 yX9_constraint ∈ AW := aw_4 62 (by decide +kernel)
theorem gw_L_constraint : GW yL_constraint cL_constraint 5 (some .int) [(0, 10, 13, 21), (0, 10, 17, 13)] 4 := ⟨aw_4 61 (by decide +kernel), aw_1 0 (by decide +kernel), by decide +kernel, by decide +kernel, aw_4 60 (by decide +kernel)⟩
theorem g_X9_constraint : GV yX9_constraint cX9_constraint 3 (Option.some Jvm.ClassFile.FieldType.int) 2 := ⟨⟨aw_4 65 (by decide +kernel), aw_1 1 (by decide +kernel), by decide +kernel, by decide +kernel⟩, aw_4 63 (by decide +kernel), aw_4 64 (by decide +kernel)⟩
theorem ml_L_42 : Cond.methodLink RL 42 yX9_variable ∈ AW := aw_4 69 (by decide +kernel)
theorem gw_L_variable : GW yL_variable cL_variable 5 (some .int) [(0, 10, 13, 21), (0, 10, 17, 13)] 4 := ⟨aw_4 68 (by decide +kernel), aw_1 0 (by decide +kernel), by decide +kernel, by decide +kernel, aw_4 67 (by decide +kernel)⟩
theorem g_X9_variable : GV yX9_variable cX9_variable 3 (Option.some Jvm.ClassFile.FieldType.int) 2 := ⟨⟨aw_4 72 (by decide +kernel), aw_1 1 (by decide +kernel), by decide +kernel, by decide +kernel⟩, aw_4 70 (by decide +kernel), aw_4 71 (by decide +kernel)⟩
theorem ml_L_45 : Cond.methodLink RL 45 yX9_violation ∈ AW := aw_4 88 (by decide +kernel)
theorem gw_L_violation : GW yL_violation cL_violation 5 (some .int) [(0, 10, 13, 21)] 4 := ⟨aw_4 87 (by decide +kernel), aw_1 0 (by decide +kernel), by decide +kernel, by decide +kernel, aw_4 86 (by decide +kernel)⟩
theorem g_X9_violation : GV yX9_violation cX9_violation 3 (Option.some Jvm.ClassFile.FieldType.int) 2 := ⟨⟨aw_4 91 (by decide +kernel), aw_1 1 (by decide +kernel), by decide +kernel, by decide +kernel⟩, aw_4 89 (by decide +kernel), aw_4 90 (by decide +kernel)⟩
theorem ml_L_49 : Cond.methodLink RL 49 yX9_mostBlamed ∈ AW := aw_4 97 (by decide +kernel)
theorem gw_L_mostBlamed : GW yL_mostBlamed cL_mostBlamed 3 (some .int) [(0, 8, 11, 53)] 2 := ⟨aw_4 95 (by decide +kernel), aw_1 0 (by decide +kernel), by decide +kernel, by decide +kernel, aw_4 94 (by decide +kernel)⟩
theorem cl_L_53 : Cond.classLink RL 53 "java/util/NoSuchElementException" ∈ AW := aw_4 96 (by decide +kernel)
theorem g_X9_mostBlamed : GV yX9_mostBlamed cX9_mostBlamed 5 (Option.some Jvm.ClassFile.FieldType.int) 0 := ⟨⟨aw_4 100 (by decide +kernel), aw_1 1 (by decide +kernel), by decide +kernel, by decide +kernel⟩, aw_4 98 (by decide +kernel), aw_4 99 (by decide +kernel)⟩
theorem ml_L_55 : Cond.methodLink RL 55 yX9_relief ∈ AW := aw_4 119 (by decide +kernel)
theorem gw_L_relief : GW yL_relief cL_relief 4 (some .int) [(0, 9, 12, 21)] 3 := ⟨aw_4 118 (by decide +kernel), aw_1 0 (by decide +kernel), by decide +kernel, by decide +kernel, aw_4 117 (by decide +kernel)⟩
theorem g_X9_relief : GV yX9_relief cX9_relief 2 (Option.some Jvm.ClassFile.FieldType.int) 1 := ⟨⟨aw_4 122 (by decide +kernel), aw_1 1 (by decide +kernel), by decide +kernel, by decide +kernel⟩, aw_4 120 (by decide +kernel), aw_4 121 (by decide +kernel)⟩
theorem ml_L_58 : Cond.methodLink RL 58 yX9_setNeighborhood ∈ AW := aw_4 132 (by decide +kernel)
theorem gw_L_setNeighborhood : GW yL_setNeighborhood cL_setNeighborhood 4 (some .int) [(0, 9, 12, 13)] 3 := ⟨aw_4 131 (by decide +kernel), aw_1 0 (by decide +kernel), by decide +kernel, by decide +kernel, aw_4 130 (by decide +kernel)⟩
theorem g_X9_setNeighborhood : GV yX9_setNeighborhood cX9_setNeighborhood 3 (Option.some Jvm.ClassFile.FieldType.int) 1 := ⟨⟨aw_4 135 (by decide +kernel), aw_1 1 (by decide +kernel), by decide +kernel, by decide +kernel⟩, aw_4 133 (by decide +kernel), aw_4 134 (by decide +kernel)⟩
theorem ml_L_61 : Cond.methodLink RL 61 yX9_setTenure ∈ AW := aw_4 139 (by decide +kernel)
theorem gw_L_setTenure : GW yL_setTenure cL_setTenure 4 (some .int) [(0, 9, 12, 13)] 3 := ⟨aw_4 138 (by decide +kernel), aw_1 0 (by decide +kernel), by decide +kernel, by decide +kernel, aw_4 137 (by decide +kernel)⟩
theorem g_X9_setTenure : GV yX9_setTenure cX9_setTenure 3 (Option.some Jvm.ClassFile.FieldType.int) 1 := ⟨⟨aw_4 142 (by decide +kernel), aw_1 1 (by decide +kernel), by decide +kernel, by decide +kernel⟩, aw_4 140 (by decide +kernel), aw_4 141 (by decide +kernel)⟩
theorem ml_L_64 : Cond.methodLink RL 64 yX9_setPatience ∈ AW := aw_4 146 (by decide +kernel)
theorem gw_L_setPatience : GW yL_setPatience cL_setPatience 4 (some .int) [(0, 9, 12, 13)] 3 := ⟨aw_4 145 (by decide +kernel), aw_1 0 (by decide +kernel), by decide +kernel, by decide +kernel, aw_4 144 (by decide +kernel)⟩
theorem g_X9_setPatience : GV yX9_setPatience cX9_setPatience 3 (Option.some Jvm.ClassFile.FieldType.int) 1 := ⟨⟨aw_4 149 (by decide +kernel), aw_1 1 (by decide +kernel), by decide +kernel, by decide +kernel⟩, aw_4 147 (by decide +kernel), aw_4 148 (by decide +kernel)⟩
theorem ml_L_67 : Cond.methodLink RL 67 yX9_setSeed ∈ AW := aw_4 153 (by decide +kernel)
theorem gw_L_setSeed : GW yL_setSeed cL_setSeed 4 (some .int) [(0, 9, 12, 13)] 3 := ⟨aw_4 152 (by decide +kernel), aw_1 0 (by decide +kernel), by decide +kernel, by decide +kernel, aw_4 151 (by decide +kernel)⟩
theorem g_X9_setSeed : GV yX9_setSeed cX9_setSeed 3 (Option.some Jvm.ClassFile.FieldType.int) 1 := ⟨⟨aw_4 156 (by decide +kernel), aw_1 1 (by decide +kernel), by decide +kernel, by decide +kernel⟩, aw_4 154 (by decide +kernel), aw_4 155 (by decide +kernel)⟩
theorem ml_L_70 : Cond.methodLink RL 70 yX9_move ∈ AW := aw_4 161 (by decide +kernel)
theorem gw_L_move : GW yL_move cL_move 5 (some .int) [(0, 10, 13, 21), (0, 10, 17, 13)] 4 := ⟨aw_4 160 (by decide +kernel), aw_1 0 (by decide +kernel), by decide +kernel, by decide +kernel, aw_4 159 (by decide +kernel)⟩
theorem g_X9_move : GV yX9_move cX9_move 3 (Option.some Jvm.ClassFile.FieldType.int) 2 := ⟨⟨aw_4 164 (by decide +kernel), aw_1 1 (by decide +kernel), by decide +kernel, by decide +kernel⟩, aw_4 162 (by decide +kernel), aw_4 163 (by decide +kernel)⟩
theorem ml_L_73 : Cond.methodLink RL 73 yX9_nextMove ∈ AW := aw_4 170 (by decide +kernel)
theorem gw_L_nextMove : GW yL_nextMove cL_nextMove 3 (some .int) [(0, 8, 11, 53)] 2 := ⟨aw_4 169 (by decide +kernel), aw_1 0 (by decide +kernel), by decide +kernel, by decide +kernel, aw_4 168 (by decide +kernel)⟩
theorem g_X9_nextMove : GV yX9_nextMove cX9_nextMove 2 (Option.some Jvm.ClassFile.FieldType.int) 0 := ⟨⟨aw_4 173 (by decide +kernel), aw_1 1 (by decide +kernel), by decide +kernel, by decide +kernel⟩, aw_4 171 (by decide +kernel), aw_4 172 (by decide +kernel)⟩
theorem ml_L_76 : Cond.methodLink RL 76 yX9_isForbidden ∈ AW := aw_4 178 (by decide +kernel)
theorem gw_L_isForbidden : GW yL_isForbidden cL_isForbidden 5 (some .int) [(0, 17, 20, 21), (0, 17, 24, 13)] 4 := ⟨aw_4 177 (by decide +kernel), aw_1 0 (by decide +kernel), by decide +kernel, by decide +kernel, aw_4 176 (by decide +kernel)⟩
theorem g_X9_isForbidden : GV yX9_isForbidden cX9_isForbidden 3 (Option.some Jvm.ClassFile.FieldType.boolean) 2 := ⟨⟨aw_4 181 (by decide +kernel), aw_1 1 (by decide +kernel), by decide +kernel, by decide +kernel⟩, aw_4 179 (by decide +kernel), aw_4 180 (by decide +kernel)⟩
theorem ml_L_80 : Cond.methodLink RL 80 yX9_step ∈ AW := aw_4 186 (by decide +kernel)
theorem gw_L_step : GW yL_step cL_step 3 (some .int) [(0, 8, 11, 53)] 2 := ⟨aw_4 185 (by decide +kernel), aw_1 0 (by decide +kernel), by decide +kernel, by decide +kernel, aw_4 184 (by decide +kernel)⟩
theorem g_X9_step : GV yX9_step cX9_step 1 (Option.some Jvm.ClassFile.FieldType.int) 0 := ⟨⟨aw_4 189 (by decide +kernel), aw_1 1 (by decide +kernel), by decide +kernel, by decide +kernel⟩, aw_4 187 (by decide +kernel), aw_4 188 (by decide +kernel)⟩
theorem ml_L_83 : Cond.methodLink RL 83 yX9_run ∈ AW := aw_4 207 (by decide +kernel)
theorem gw_L_run : GW yL_run cL_run 4 (some .int) [(0, 9, 12, 13)] 3 := ⟨aw_4 206 (by decide +kernel), aw_1 0 (by decide +kernel), by decide +kernel, by decide +kernel, aw_4 205 (by decide +kernel)⟩
theorem g_X9_run : GV yX9_run cX9_run 3 (Option.some Jvm.ClassFile.FieldType.int) 1 := ⟨⟨aw_4 210 (by decide +kernel), aw_1 1 (by decide +kernel), by decide +kernel, by decide +kernel⟩, aw_4 208 (by decide +kernel), aw_4 209 (by decide +kernel)⟩
theorem ml_L_86 : Cond.methodLink RL 86 yX9_search ∈ AW := aw_4 214 (by decide +kernel)
theorem gw_L_search : GW yL_search cL_search 4 (some .int) [(0, 9, 12, 13)] 3 := ⟨aw_4 213 (by decide +kernel), aw_1 0 (by decide +kernel), by decide +kernel, by decide +kernel, aw_4 212 (by decide +kernel)⟩
theorem g_X9_search : GV yX9_search cX9_search 2 (Option.some Jvm.ClassFile.FieldType.int) 1 := ⟨⟨aw_4 217 (by decide +kernel), aw_1 1 (by decide +kernel), by decide +kernel, by decide +kernel⟩, aw_4 215 (by decide +kernel), aw_4 216 (by decide +kernel)⟩
theorem ml_L_89 : Cond.methodLink RL 89 yX9_log ∈ AW := aw_4 221 (by decide +kernel)
theorem gw_L_log : GW yL_log cL_log 5 (some .int) [(0, 10, 13, 21), (0, 10, 17, 13)] 4 := ⟨aw_4 220 (by decide +kernel), aw_1 0 (by decide +kernel), by decide +kernel, by decide +kernel, aw_4 219 (by decide +kernel)⟩
theorem g_X9_log : GV yX9_log cX9_log 3 (Option.some Jvm.ClassFile.FieldType.int) 2 := ⟨⟨aw_4 224 (by decide +kernel), aw_1 1 (by decide +kernel), by decide +kernel, by decide +kernel⟩, aw_4 222 (by decide +kernel), aw_4 223 (by decide +kernel)⟩
theorem ml_L_92 : Cond.methodLink RL 92 yX9_improvingShare ∈ AW := aw_5 6 (by decide +kernel)
theorem gw_L_improvingShare : GW yL_improvingShare cL_improvingShare 3 (some .int) [(0, 7, 10, 96)] 2 := ⟨aw_4 231 (by decide +kernel), aw_1 0 (by decide +kernel), by decide +kernel, by decide +kernel, aw_4 230 (by decide +kernel)⟩
theorem cl_L_96 : Cond.classLink RL 96 "java/lang/ArithmeticException" ∈ AW := aw_4 232 (by decide +kernel)
theorem g_X9_improvingShare : GV yX9_improvingShare cX9_improvingShare 2 (Option.some Jvm.ClassFile.FieldType.double) 0 := ⟨⟨aw_5 9 (by decide +kernel), aw_1 1 (by decide +kernel), by decide +kernel, by decide +kernel⟩, aw_5 7 (by decide +kernel), aw_5 8 (by decide +kernel)⟩
theorem ml_L_98 : Cond.methodLink RL 98 yX9_optimum ∈ AW := aw_5 23 (by decide +kernel)
theorem gw_L_optimum : GW yL_optimum cL_optimum 3 (some .int) [(0, 8, 11, 15)] 2 := ⟨aw_5 22 (by decide +kernel), aw_1 0 (by decide +kernel), by decide +kernel, by decide +kernel, aw_5 21 (by decide +kernel)⟩
theorem g_X9_optimum : GV yX9_optimum cX9_optimum 1 (Option.some Jvm.ClassFile.FieldType.int) 0 := ⟨⟨aw_5 26 (by decide +kernel), aw_1 1 (by decide +kernel), by decide +kernel, by decide +kernel⟩, aw_5 24 (by decide +kernel), aw_5 25 (by decide +kernel)⟩
theorem ml_L_101 : Cond.methodLink RL 101 yX9_optima ∈ AW := aw_5 52 (by decide +kernel)
theorem gw_L_optima : GW yL_optima cL_optima 3 (some .int) [(0, 8, 11, 15)] 2 := ⟨aw_5 51 (by decide +kernel), aw_1 0 (by decide +kernel), by decide +kernel, by decide +kernel, aw_5 50 (by decide +kernel)⟩
theorem g_X9_optima : GV yX9_optima cX9_optima 1 (Option.some Jvm.ClassFile.FieldType.int) 0 := ⟨⟨aw_5 55 (by decide +kernel), aw_1 1 (by decide +kernel), by decide +kernel, by decide +kernel⟩, aw_5 53 (by decide +kernel), aw_5 54 (by decide +kernel)⟩
theorem ml_L_104 : Cond.methodLink RL 104 yX9_optimalValue ∈ AW := aw_5 59 (by decide +kernel)
theorem gw_L_optimalValue : GW yL_optimalValue cL_optimalValue 4 (some .int) [(0, 9, 12, 21), (0, 9, 15, 15)] 3 := ⟨aw_5 58 (by decide +kernel), aw_1 0 (by decide +kernel), by decide +kernel, by decide +kernel, aw_5 57 (by decide +kernel)⟩
theorem g_X9_optimalValue : GV yX9_optimalValue cX9_optimalValue 2 (Option.some Jvm.ClassFile.FieldType.int) 1 := ⟨⟨aw_5 62 (by decide +kernel), aw_1 1 (by decide +kernel), by decide +kernel, by decide +kernel⟩, aw_5 60 (by decide +kernel), aw_5 61 (by decide +kernel)⟩
theorem ml_L_107 : Cond.methodLink RL 107 yX9_worst ∈ AW := aw_5 66 (by decide +kernel)
theorem gw_L_worst : GW yL_worst cL_worst 3 (some .int) [(0, 8, 11, 15)] 2 := ⟨aw_5 65 (by decide +kernel), aw_1 0 (by decide +kernel), by decide +kernel, by decide +kernel, aw_5 64 (by decide +kernel)⟩
theorem g_X9_worst : GV yX9_worst cX9_worst 1 (Option.some Jvm.ClassFile.FieldType.int) 0 := ⟨⟨aw_5 69 (by decide +kernel), aw_1 1 (by decide +kernel), by decide +kernel, by decide +kernel⟩, aw_5 67 (by decide +kernel), aw_5 68 (by decide +kernel)⟩
theorem ml_L_110 : Cond.methodLink RL 110 yX9_unavoidable ∈ AW := aw_5 73 (by decide +kernel)
theorem gw_L_unavoidable : GW yL_unavoidable cL_unavoidable 3 (some .int) [(0, 8, 11, 15)] 2 := ⟨aw_5 72 (by decide +kernel), aw_1 0 (by decide +kernel), by decide +kernel, by decide +kernel, aw_5 71 (by decide +kernel)⟩
theorem g_X9_unavoidable : GV yX9_unavoidable cX9_unavoidable 1 (Option.some Jvm.ClassFile.FieldType.int) 0 := ⟨⟨aw_5 76 (by decide +kernel), aw_1 1 (by decide +kernel), by decide +kernel, by decide +kernel⟩, aw_5 74 (by decide +kernel), aw_5 75 (by decide +kernel)⟩
theorem ml_L_113 : Cond.methodLink RL 113 yX9_append ∈ AW := aw_5 80 (by decide +kernel)
theorem gw_L_append : GW yL_append cL_append 4 (some .int) [(0, 9, 12, 13), (0, 9, 15, 15)] 3 := ⟨aw_5 79 (by decide +kernel), aw_1 0 (by decide +kernel), by decide +kernel, by decide +kernel, aw_5 78 (by decide +kernel)⟩
theorem g_X9_append : GV yX9_append cX9_append 2 (Option.some Jvm.ClassFile.FieldType.int) 1 := ⟨⟨aw_5 83 (by decide +kernel), aw_1 1 (by decide +kernel), by decide +kernel, by decide +kernel⟩, aw_5 81 (by decide +kernel), aw_5 82 (by decide +kernel)⟩
theorem ml_L_117 : Cond.methodLink RL 117 yX9_read ∈ AW := aw_5 91 (by decide +kernel)
theorem gw_L_read : GW yL_read cL_read 3 (some .int) [(0, 8, 11, 13), (0, 8, 14, 15)] 2 := ⟨aw_5 90 (by decide +kernel), aw_1 0 (by decide +kernel), by decide +kernel, by decide +kernel, aw_5 89 (by decide +kernel)⟩
theorem g_X9_read : GV yX9_read cX9_read 2 (Option.some Jvm.ClassFile.FieldType.int) 0 := ⟨⟨aw_5 94 (by decide +kernel), aw_1 1 (by decide +kernel), by decide +kernel, by decide +kernel⟩, aw_5 92 (by decide +kernel), aw_5 93 (by decide +kernel)⟩
theorem ml_L_120 : Cond.methodLink RL 120 yX9_errorPosition ∈ AW := aw_5 142 (by decide +kernel)
theorem gw_L_errorPosition : GW yL_errorPosition cL_errorPosition 3 (some .int) [(0, 8, 11, 53)] 2 := ⟨aw_5 141 (by decide +kernel), aw_1 0 (by decide +kernel), by decide +kernel, by decide +kernel, aw_5 140 (by decide +kernel)⟩
theorem g_X9_errorPosition : GV yX9_errorPosition cX9_errorPosition 1 (Option.some Jvm.ClassFile.FieldType.int) 0 := ⟨⟨aw_5 145 (by decide +kernel), aw_1 1 (by decide +kernel), by decide +kernel, by decide +kernel⟩, aw_5 143 (by decide +kernel), aw_5 144 (by decide +kernel)⟩
theorem ml_L_123 : Cond.methodLink RL 123 yX9_describe ∈ AW := aw_5 149 (by decide +kernel)
theorem gw_L_describe : GW yL_describe cL_describe 5 (some .int) [(0, 10, 13, 21), (0, 10, 17, 53)] 4 := ⟨aw_5 148 (by decide +kernel), aw_1 0 (by decide +kernel), by decide +kernel, by decide +kernel, aw_5 147 (by decide +kernel)⟩
theorem g_X9_describe : GV yX9_describe cX9_describe 3 (Option.some Jvm.ClassFile.FieldType.int) 2 := ⟨⟨aw_5 152 (by decide +kernel), aw_1 1 (by decide +kernel), by decide +kernel, by decide +kernel⟩, aw_5 150 (by decide +kernel), aw_5 151 (by decide +kernel)⟩
theorem ml_L_126 : Cond.methodLink RL 126 yX9_undo ∈ AW := aw_5 170 (by decide +kernel)
theorem gw_L_undo : GW yL_undo cL_undo 3 (some .int) [(0, 8, 11, 53)] 2 := ⟨aw_5 169 (by decide +kernel), aw_1 0 (by decide +kernel), by decide +kernel, by decide +kernel, aw_5 168 (by decide +kernel)⟩
theorem g_X9_undo : GV yX9_undo cX9_undo 1 (Option.some Jvm.ClassFile.FieldType.int) 0 := ⟨⟨aw_5 173 (by decide +kernel), aw_1 1 (by decide +kernel), by decide +kernel, by decide +kernel⟩, aw_5 171 (by decide +kernel), aw_5 172 (by decide +kernel)⟩
theorem ml_L_129 : Cond.methodLink RL 129 yX9_restore ∈ AW := aw_5 181 (by decide +kernel)
theorem gw_L_restore : GW yL_restore cL_restore 3 (some .int) [(0, 8, 11, 15)] 2 := ⟨aw_5 180 (by decide +kernel), aw_1 0 (by decide +kernel), by decide +kernel, by decide +kernel, aw_5 179 (by decide +kernel)⟩
theorem g_X9_restore : GV yX9_restore cX9_restore 1 (Option.some Jvm.ClassFile.FieldType.int) 0 := ⟨⟨aw_5 184 (by decide +kernel), aw_1 1 (by decide +kernel), by decide +kernel, by decide +kernel⟩, aw_5 182 (by decide +kernel), aw_5 183 (by decide +kernel)⟩
/-! THE LAW'S WRAPPERS (by program): wL_.. the pure function; cL_.. the contract -/
def wL_addVariable (σ : Mem) (a1 : Int32) : Option (Int32 × Mem) := bx (fX9_addVariable σ a1) (fun r σ1 => some ((0 : Int32), mst σ1 155 0 r)) (fun e σ1 => if e = "java/lang/IllegalArgumentException" then some (1, σ1) else if e = "java/lang/IllegalStateException" then some (2, σ1) else none)

set_option maxHeartbeats 4000000 in
set_option maxRecDepth 100000 in
theorem cL_addVariable_c {l : Launch} {D : va_G} {ad : Nat → Nat} {cy : Nat → ClassId} (hl : l.stackTraces = false) (hI : Inj ad) {σ τ : Mem} {a1 : Int32} {r : Int32} (h : wL_addVariable σ a1 = some (r, τ)) : CoW l D ad cy yL_addVariable cL_addVariable 4 (some .int) [(0, 9, 12, 13), (0, 9, 15, 15)] 9 254 2 [.ref (ad 0), .int a1, .ref (ad 155)] σ (zi r) τ := by
  refine cow_of (av := [.inr 0, .inl a1, .inr 155]) hl hI (by decide +kernel) (Nat.le_of_ble_eq_true rfl) [some (.inr 0), some (.inl a1), some (.inr 155), none] rfl (fun V C => ?_)
  have C : Rg l D ad cy RL cL_addVariable 4 9 254 2 (tableOf [(0, 9, 12, 13), (0, 9, 15, 15)]) (FW D ad cy (zi r) τ 2) pT V := C
  refine rg_aload_n C dL_addVariable_0 rfl ?_
  refine rg_iconst C ic_0 dL_addVariable_1 ?_
  refine rg_aload_n C dL_addVariable_2 rfl ?_
  refine rg_iload_n C dL_addVariable_3 rfl ?_
  refine bx_e h (fun v σ1 hf h => ?_) (fun e9 σ1 hf h => ?_)
  · have hM := mX9_addVariable hl (D := D) (cy := cy) hI hf
    refine rg_callV C g_X9_addVariable hc_9 o_0 ml_L_7 hM rfl rfl (by exact Nat.le_of_ble_eq_true rfl) ⟨Nat.le_of_ble_eq_true rfl, Nat.le_of_ble_eq_true rfl, Nat.le_of_ble_eq_true rfl⟩ dL_addVariable_4 ?_
    have h : lt (mst σ1 155 0 v) (fun σ2 => some ((0 : Int32), σ2)) = some (r, τ) := h
    refine rg_i2l C dL_addVariable_7 ?_
    refine rg_lastore C h dL_addVariable_8 (fun σ2 h => ?_)
    refine rg_goto C (tgt := 18) (by decide) dL_addVariable_9 ?_
    refine rg_iconst C ic_0 dL_addVariable_18 ?_
    exact rw_iret C (Nat.le_of_ble_eq_true rfl) dL_addVariable_19 (re_i h)
  · have hM := mX9_addVariable hl (D := D) (cy := cy) hI hf
    refine sw_e h (fun he h => ?_) (fun hne0 h => ?_)
    · subst he
      exact rw_catchn C g_X9_addVariable hc_9 o_0 ml_L_7 hM rfl rfl (by exact Nat.le_of_ble_eq_true rfl) ⟨Nat.le_of_ble_eq_true rfl, Nat.le_of_ble_eq_true rfl, Nat.le_of_ble_eq_true rfl⟩ dL_addVariable_4 [] ⟨0, 9, 12, 13⟩ [⟨0, 9, 15, 15⟩] rfl (fun z9 hz9 => by cases hz9) (by decide) (by decide) cl_L_13 (by decide +kernel) (by decide) dL_addVariable_12 ic_1 dL_addVariable_13 dL_addVariable_14 (re_i h)
    · skip
      refine sw_e h (fun he h => ?_) (fun hne1 h => ?_)
      · subst he
        exact rw_catchn C g_X9_addVariable hc_9 o_0 ml_L_7 hM rfl rfl (by exact Nat.le_of_ble_eq_true rfl) ⟨Nat.le_of_ble_eq_true rfl, Nat.le_of_ble_eq_true rfl, Nat.le_of_ble_eq_true rfl⟩ dL_addVariable_4 [⟨0, 9, 12, 13⟩] ⟨0, 9, 15, 15⟩ [] rfl (fun z9 hz9 => by rcases List.mem_singleton.mp hz9 with rfl; exact Or.inr ⟨by decide, _, cl_L_13, by decide⟩) (by decide) (by decide) cl_L_15 (by decide +kernel) (by decide) dL_addVariable_15 ic_2 dL_addVariable_16 dL_addVariable_17 (re_i h)
      · exact no_e h
def wL_setDomain (σ : Mem) (a1 a2 : Int32) : Option (Int32 × Mem) := bx (fX9_setDomain σ a1 a2) (fun r σ1 => some ((0 : Int32), mst σ1 155 0 r)) (fun e σ1 => if e = "java/lang/IndexOutOfBoundsException" then some (1, σ1) else if e = "java/lang/IllegalArgumentException" then some (2, σ1) else none)

set_option maxHeartbeats 4000000 in
set_option maxRecDepth 100000 in
theorem cL_setDomain_c {l : Launch} {D : va_G} {ad : Nat → Nat} {cy : Nat → ClassId} (hl : l.stackTraces = false) (hI : Inj ad) {σ τ : Mem} {a1 a2 : Int32} {r : Int32} (h : wL_setDomain σ a1 a2 = some (r, τ)) : CoW l D ad cy yL_setDomain cL_setDomain 5 (some .int) [(0, 10, 13, 21), (0, 10, 17, 13)] 9 256 2 [.ref (ad 0), .int a1, .int a2, .ref (ad 155)] σ (zi r) τ := by
  refine cow_of (av := [.inr 0, .inl a1, .inl a2, .inr 155]) hl hI (by decide +kernel) (Nat.le_of_ble_eq_true rfl) [some (.inr 0), some (.inl a1), some (.inl a2), some (.inr 155), none] rfl (fun V C => ?_)
  have C : Rg l D ad cy RL cL_setDomain 5 9 256 2 (tableOf [(0, 10, 13, 21), (0, 10, 17, 13)]) (FW D ad cy (zi r) τ 2) pT V := C
  refine rg_aload_n C dL_setDomain_0 rfl ?_
  refine rg_iconst C ic_0 dL_setDomain_1 ?_
  refine rg_aload_n C dL_setDomain_2 rfl ?_
  refine rg_iload_n C dL_setDomain_3 rfl ?_
  refine rg_iload_n C dL_setDomain_4 rfl ?_
  refine bx_e h (fun v σ1 hf h => ?_) (fun e9 σ1 hf h => ?_)
  · have hM := mX9_setDomain hl (D := D) (cy := cy) hI hf
    refine rg_callV C g_X9_setDomain hc_9 o_0 ml_L_17 hM rfl rfl (by exact Nat.le_of_ble_eq_true rfl) ⟨Nat.le_of_ble_eq_true rfl, Nat.le_of_ble_eq_true rfl, Nat.le_of_ble_eq_true rfl⟩ dL_setDomain_5 ?_
    have h : lt (mst σ1 155 0 v) (fun σ2 => some ((0 : Int32), σ2)) = some (r, τ) := h
    refine rg_i2l C dL_setDomain_8 ?_
    refine rg_lastore C h dL_setDomain_9 (fun σ2 h => ?_)
    refine rg_goto C (tgt := 21) (by decide) dL_setDomain_10 ?_
    refine rg_iconst C ic_0 dL_setDomain_21 ?_
    exact rw_iret C (Nat.le_of_ble_eq_true rfl) dL_setDomain_22 (re_i h)
  · have hM := mX9_setDomain hl (D := D) (cy := cy) hI hf
    refine sw_e h (fun he h => ?_) (fun hne0 h => ?_)
    · subst he
      exact rw_catch C g_X9_setDomain hc_9 o_0 ml_L_17 hM rfl rfl (by exact Nat.le_of_ble_eq_true rfl) ⟨Nat.le_of_ble_eq_true rfl, Nat.le_of_ble_eq_true rfl, Nat.le_of_ble_eq_true rfl⟩ dL_setDomain_5 [] ⟨0, 10, 13, 21⟩ [⟨0, 10, 17, 13⟩] rfl (fun z9 hz9 => by cases hz9) (by decide) (by decide) cl_L_21 (by decide +kernel) (by decide) dL_setDomain_13 ic_1 dL_setDomain_15 dL_setDomain_16 (re_i h)
    · skip
      refine sw_e h (fun he h => ?_) (fun hne1 h => ?_)
      · subst he
        exact rw_catch C g_X9_setDomain hc_9 o_0 ml_L_17 hM rfl rfl (by exact Nat.le_of_ble_eq_true rfl) ⟨Nat.le_of_ble_eq_true rfl, Nat.le_of_ble_eq_true rfl, Nat.le_of_ble_eq_true rfl⟩ dL_setDomain_5 [⟨0, 10, 13, 21⟩] ⟨0, 10, 17, 13⟩ [] rfl (fun z9 hz9 => by rcases List.mem_singleton.mp hz9 with rfl; exact Or.inr ⟨by decide, _, cl_L_21, by decide⟩) (by decide) (by decide) cl_L_13 (by decide +kernel) (by decide) dL_setDomain_17 ic_2 dL_setDomain_19 dL_setDomain_20 (re_i h)
      · exact no_e h
def wL_addConstraint (σ : Mem) (a1 a2 a3 a4 : Int32) : Option (Int32 × Mem) := bx (fX9_addConstraint σ a1 a2 a3 a4) (fun r σ1 => some ((0 : Int32), mst σ1 155 0 r)) (fun e σ1 => if e = "java/lang/IllegalArgumentException" then some (1, σ1) else if e = "java/lang/IllegalStateException" then some (2, σ1) else none)

set_option maxHeartbeats 4000000 in
set_option maxRecDepth 100000 in
theorem cL_addConstraint_c {l : Launch} {D : va_G} {ad : Nat → Nat} {cy : Nat → ClassId} (hl : l.stackTraces = false) (hI : Inj ad) {σ τ : Mem} {a1 a2 a3 a4 : Int32} {r : Int32} (h : wL_addConstraint σ a1 a2 a3 a4 = some (r, τ)) : CoW l D ad cy yL_addConstraint cL_addConstraint 7 (some .int) [(0, 14, 17, 13), (0, 14, 21, 15)] 8 257 4 [.ref (ad 0), .int a1, .int a2, .int a3, .int a4, .ref (ad 155)] σ (zi r) τ := by
  refine cow_of (av := [.inr 0, .inl a1, .inl a2, .inl a3, .inl a4, .inr 155]) hl hI (by decide +kernel) (Nat.le_of_ble_eq_true rfl) [some (.inr 0), some (.inl a1), some (.inl a2), some (.inl a3), some (.inl a4), some (.inr 155), none] rfl (fun V C => ?_)
  have C : Rg l D ad cy RL cL_addConstraint 7 8 257 4 (tableOf [(0, 14, 17, 13), (0, 14, 21, 15)]) (FW D ad cy (zi r) τ 4) pT V := C
  refine rg_aload C dL_addConstraint_0 rfl ?_
  refine rg_iconst C ic_0 dL_addConstraint_2 ?_
  refine rg_aload_n C dL_addConstraint_3 rfl ?_
  refine rg_iload_n C dL_addConstraint_4 rfl ?_
  refine rg_iload_n C dL_addConstraint_5 rfl ?_
  refine rg_iload_n C dL_addConstraint_6 rfl ?_
  refine rg_iload C dL_addConstraint_7 rfl ?_
  refine bx_e h (fun v σ1 hf h => ?_) (fun e9 σ1 hf h => ?_)
  · have hM := mX9_addConstraint hl (D := D) (cy := cy) hI hf
    refine rg_callV C g_X9_addConstraint hc_9 o_0 ml_L_23 hM rfl rfl (by exact Nat.le_of_ble_eq_true rfl) ⟨Nat.le_of_ble_eq_true rfl, Nat.le_of_ble_eq_true rfl, Nat.le_of_ble_eq_true rfl⟩ dL_addConstraint_9 ?_
    have h : lt (mst σ1 155 0 v) (fun σ2 => some ((0 : Int32), σ2)) = some (r, τ) := h
    refine rg_i2l C dL_addConstraint_12 ?_
    refine rg_lastore C h dL_addConstraint_13 (fun σ2 h => ?_)
    refine rg_goto C (tgt := 25) (by decide) dL_addConstraint_14 ?_
    refine rg_iconst C ic_0 dL_addConstraint_25 ?_
    exact rw_iret C (Nat.le_of_ble_eq_true rfl) dL_addConstraint_26 (re_i h)
  · have hM := mX9_addConstraint hl (D := D) (cy := cy) hI hf
    refine sw_e h (fun he h => ?_) (fun hne0 h => ?_)
    · subst he
      exact rw_catch C g_X9_addConstraint hc_9 o_0 ml_L_23 hM rfl rfl (by exact Nat.le_of_ble_eq_true rfl) ⟨Nat.le_of_ble_eq_true rfl, Nat.le_of_ble_eq_true rfl, Nat.le_of_ble_eq_true rfl⟩ dL_addConstraint_9 [] ⟨0, 14, 17, 13⟩ [⟨0, 14, 21, 15⟩] rfl (fun z9 hz9 => by cases hz9) (by decide) (by decide) cl_L_13 (by decide +kernel) (by decide) dL_addConstraint_17 ic_1 dL_addConstraint_19 dL_addConstraint_20 (re_i h)
    · skip
      refine sw_e h (fun he h => ?_) (fun hne1 h => ?_)
      · subst he
        exact rw_catch C g_X9_addConstraint hc_9 o_0 ml_L_23 hM rfl rfl (by exact Nat.le_of_ble_eq_true rfl) ⟨Nat.le_of_ble_eq_true rfl, Nat.le_of_ble_eq_true rfl, Nat.le_of_ble_eq_true rfl⟩ dL_addConstraint_9 [⟨0, 14, 17, 13⟩] ⟨0, 14, 21, 15⟩ [] rfl (fun z9 hz9 => by rcases List.mem_singleton.mp hz9 with rfl; exact Or.inr ⟨by decide, _, cl_L_13, by decide⟩) (by decide) (by decide) cl_L_15 (by decide +kernel) (by decide) dL_addConstraint_21 ic_2 dL_addConstraint_23 dL_addConstraint_24 (re_i h)
      · exact no_e h
def wL_removeConstraint (σ : Mem) (a1 : Int32) : Option (Int32 × Mem) := bx (fX9_removeConstraint σ a1) (fun r σ1 => some ((0 : Int32), mst σ1 155 0 r)) (fun e σ1 => if e = "java/lang/IndexOutOfBoundsException" then some (1, σ1) else none)

set_option maxHeartbeats 4000000 in
set_option maxRecDepth 100000 in
theorem cL_removeConstraint_c {l : Launch} {D : va_G} {ad : Nat → Nat} {cy : Nat → ClassId} (hl : l.stackTraces = false) (hI : Inj ad) {σ τ : Mem} {a1 : Int32} {r : Int32} (h : wL_removeConstraint σ a1 = some (r, τ)) : CoW l D ad cy yL_removeConstraint cL_removeConstraint 4 (some .int) [(0, 9, 12, 21)] 8 254 1 [.ref (ad 0), .int a1, .ref (ad 155)] σ (zi r) τ := by
  refine cow_of (av := [.inr 0, .inl a1, .inr 155]) hl hI (by decide +kernel) (Nat.le_of_ble_eq_true rfl) [some (.inr 0), some (.inl a1), some (.inr 155), none] rfl (fun V C => ?_)
  have C : Rg l D ad cy RL cL_removeConstraint 4 8 254 1 (tableOf [(0, 9, 12, 21)]) (FW D ad cy (zi r) τ 1) pT V := C
  refine rg_aload_n C dL_removeConstraint_0 rfl ?_
  refine rg_iconst C ic_0 dL_removeConstraint_1 ?_
  refine rg_aload_n C dL_removeConstraint_2 rfl ?_
  refine rg_iload_n C dL_removeConstraint_3 rfl ?_
  refine bx_e h (fun v σ1 hf h => ?_) (fun e9 σ1 hf h => ?_)
  · have hM := mX9_removeConstraint hl (D := D) (cy := cy) hI hf
    refine rg_callV C g_X9_removeConstraint hc_9 o_0 ml_L_27 hM rfl rfl (by exact Nat.le_of_ble_eq_true rfl) ⟨Nat.le_of_ble_eq_true rfl, Nat.le_of_ble_eq_true rfl, Nat.le_of_ble_eq_true rfl⟩ dL_removeConstraint_4 ?_
    have h : lt (mst σ1 155 0 v) (fun σ2 => some ((0 : Int32), σ2)) = some (r, τ) := h
    refine rg_i2l C dL_removeConstraint_7 ?_
    refine rg_lastore C h dL_removeConstraint_8 (fun σ2 h => ?_)
    refine rg_goto C (tgt := 15) (by decide) dL_removeConstraint_9 ?_
    refine rg_iconst C ic_0 dL_removeConstraint_15 ?_
    exact rw_iret C (Nat.le_of_ble_eq_true rfl) dL_removeConstraint_16 (re_i h)
  · have hM := mX9_removeConstraint hl (D := D) (cy := cy) hI hf
    refine sw_e h (fun he h => ?_) (fun hne0 h => ?_)
    · subst he
      exact rw_catchn C g_X9_removeConstraint hc_9 o_0 ml_L_27 hM rfl rfl (by exact Nat.le_of_ble_eq_true rfl) ⟨Nat.le_of_ble_eq_true rfl, Nat.le_of_ble_eq_true rfl, Nat.le_of_ble_eq_true rfl⟩ dL_removeConstraint_4 [] ⟨0, 9, 12, 21⟩ [] rfl (fun z9 hz9 => by cases hz9) (by decide) (by decide) cl_L_21 (by decide +kernel) (by decide) dL_removeConstraint_12 ic_1 dL_removeConstraint_13 dL_removeConstraint_14 (re_i h)
    · exact no_e h
def wL_setWeight (σ : Mem) (a1 a2 : Int32) : Option (Int32 × Mem) := bx (fX9_setWeight σ a1 a2) (fun r σ1 => some ((0 : Int32), mst σ1 155 0 r)) (fun e σ1 => if e = "java/lang/IndexOutOfBoundsException" then some (1, σ1) else if e = "java/lang/IllegalArgumentException" then some (2, σ1) else none)

set_option maxHeartbeats 4000000 in
set_option maxRecDepth 100000 in
theorem cL_setWeight_c {l : Launch} {D : va_G} {ad : Nat → Nat} {cy : Nat → ClassId} (hl : l.stackTraces = false) (hI : Inj ad) {σ τ : Mem} {a1 a2 : Int32} {r : Int32} (h : wL_setWeight σ a1 a2 = some (r, τ)) : CoW l D ad cy yL_setWeight cL_setWeight 5 (some .int) [(0, 10, 13, 21), (0, 10, 17, 13)] 8 256 2 [.ref (ad 0), .int a1, .int a2, .ref (ad 155)] σ (zi r) τ := by
  refine cow_of (av := [.inr 0, .inl a1, .inl a2, .inr 155]) hl hI (by decide +kernel) (Nat.le_of_ble_eq_true rfl) [some (.inr 0), some (.inl a1), some (.inl a2), some (.inr 155), none] rfl (fun V C => ?_)
  have C : Rg l D ad cy RL cL_setWeight 5 8 256 2 (tableOf [(0, 10, 13, 21), (0, 10, 17, 13)]) (FW D ad cy (zi r) τ 2) pT V := C
  refine rg_aload_n C dL_setWeight_0 rfl ?_
  refine rg_iconst C ic_0 dL_setWeight_1 ?_
  refine rg_aload_n C dL_setWeight_2 rfl ?_
  refine rg_iload_n C dL_setWeight_3 rfl ?_
  refine rg_iload_n C dL_setWeight_4 rfl ?_
  refine bx_e h (fun v σ1 hf h => ?_) (fun e9 σ1 hf h => ?_)
  · have hM := mX9_setWeight hl (D := D) (cy := cy) hI hf
    refine rg_callV C g_X9_setWeight hc_9 o_0 ml_L_30 hM rfl rfl (by exact Nat.le_of_ble_eq_true rfl) ⟨Nat.le_of_ble_eq_true rfl, Nat.le_of_ble_eq_true rfl, Nat.le_of_ble_eq_true rfl⟩ dL_setWeight_5 ?_
    have h : lt (mst σ1 155 0 v) (fun σ2 => some ((0 : Int32), σ2)) = some (r, τ) := h
    refine rg_i2l C dL_setWeight_8 ?_
    refine rg_lastore C h dL_setWeight_9 (fun σ2 h => ?_)
    refine rg_goto C (tgt := 21) (by decide) dL_setWeight_10 ?_
    refine rg_iconst C ic_0 dL_setWeight_21 ?_
    exact rw_iret C (Nat.le_of_ble_eq_true rfl) dL_setWeight_22 (re_i h)
  · have hM := mX9_setWeight hl (D := D) (cy := cy) hI hf
    refine sw_e h (fun he h => ?_) (fun hne0 h => ?_)
    · subst he
      exact rw_catch C g_X9_setWeight hc_9 o_0 ml_L_30 hM rfl rfl (by exact Nat.le_of_ble_eq_true rfl) ⟨Nat.le_of_ble_eq_true rfl, Nat.le_of_ble_eq_true rfl, Nat.le_of_ble_eq_true rfl⟩ dL_setWeight_5 [] ⟨0, 10, 13, 21⟩ [⟨0, 10, 17, 13⟩] rfl (fun z9 hz9 => by cases hz9) (by decide) (by decide) cl_L_21 (by decide +kernel) (by decide) dL_setWeight_13 ic_1 dL_setWeight_15 dL_setWeight_16 (re_i h)
    · skip
      refine sw_e h (fun he h => ?_) (fun hne1 h => ?_)
      · subst he
        exact rw_catch C g_X9_setWeight hc_9 o_0 ml_L_30 hM rfl rfl (by exact Nat.le_of_ble_eq_true rfl) ⟨Nat.le_of_ble_eq_true rfl, Nat.le_of_ble_eq_true rfl, Nat.le_of_ble_eq_true rfl⟩ dL_setWeight_5 [⟨0, 10, 13, 21⟩] ⟨0, 10, 17, 13⟩ [] rfl (fun z9 hz9 => by rcases List.mem_singleton.mp hz9 with rfl; exact Or.inr ⟨by decide, _, cl_L_21, by decide⟩) (by decide) (by decide) cl_L_13 (by decide +kernel) (by decide) dL_setWeight_17 ic_2 dL_setWeight_19 dL_setWeight_20 (re_i h)
      · exact no_e h
def wL_setValue (σ : Mem) (a1 a2 : Int32) : Option (Int32 × Mem) := bx (fX9_setValue σ a1 a2) (fun r σ1 => some ((0 : Int32), mst σ1 155 0 r)) (fun e σ1 => if e = "java/lang/IndexOutOfBoundsException" then some (1, σ1) else if e = "java/lang/IllegalArgumentException" then some (2, σ1) else none)

set_option maxHeartbeats 4000000 in
set_option maxRecDepth 100000 in
theorem cL_setValue_c {l : Launch} {D : va_G} {ad : Nat → Nat} {cy : Nat → ClassId} (hl : l.stackTraces = false) (hI : Inj ad) {σ τ : Mem} {a1 a2 : Int32} {r : Int32} (h : wL_setValue σ a1 a2 = some (r, τ)) : CoW l D ad cy yL_setValue cL_setValue 5 (some .int) [(0, 10, 13, 21), (0, 10, 17, 13)] 8 256 2 [.ref (ad 0), .int a1, .int a2, .ref (ad 155)] σ (zi r) τ := by
  refine cow_of (av := [.inr 0, .inl a1, .inl a2, .inr 155]) hl hI (by decide +kernel) (Nat.le_of_ble_eq_true rfl) [some (.inr 0), some (.inl a1), some (.inl a2), some (.inr 155), none] rfl (fun V C => ?_)
  have C : Rg l D ad cy RL cL_setValue 5 8 256 2 (tableOf [(0, 10, 13, 21), (0, 10, 17, 13)]) (FW D ad cy (zi r) τ 2) pT V := C
  refine rg_aload_n C dL_setValue_0 rfl ?_
  refine rg_iconst C ic_0 dL_setValue_1 ?_
  refine rg_aload_n C dL_setValue_2 rfl ?_
  refine rg_iload_n C dL_setValue_3 rfl ?_
  refine rg_iload_n C dL_setValue_4 rfl ?_
  refine bx_e h (fun v σ1 hf h => ?_) (fun e9 σ1 hf h => ?_)
  · have hM := mX9_setValue hl (D := D) (cy := cy) hI hf
    refine rg_callV C g_X9_setValue hc_9 o_0 ml_L_33 hM rfl rfl (by exact Nat.le_of_ble_eq_true rfl) ⟨Nat.le_of_ble_eq_true rfl, Nat.le_of_ble_eq_true rfl, Nat.le_of_ble_eq_true rfl⟩ dL_setValue_5 ?_
    have h : lt (mst σ1 155 0 v) (fun σ2 => some ((0 : Int32), σ2)) = some (r, τ) := h
    refine rg_i2l C dL_setValue_8 ?_
    refine rg_lastore C h dL_setValue_9 (fun σ2 h => ?_)
    refine rg_goto C (tgt := 21) (by decide) dL_setValue_10 ?_
    refine rg_iconst C ic_0 dL_setValue_21 ?_
    exact rw_iret C (Nat.le_of_ble_eq_true rfl) dL_setValue_22 (re_i h)
  · have hM := mX9_setValue hl (D := D) (cy := cy) hI hf
    refine sw_e h (fun he h => ?_) (fun hne0 h => ?_)
    · subst he
      exact rw_catch C g_X9_setValue hc_9 o_0 ml_L_33 hM rfl rfl (by exact Nat.le_of_ble_eq_true rfl) ⟨Nat.le_of_ble_eq_true rfl, Nat.le_of_ble_eq_true rfl, Nat.le_of_ble_eq_true rfl⟩ dL_setValue_5 [] ⟨0, 10, 13, 21⟩ [⟨0, 10, 17, 13⟩] rfl (fun z9 hz9 => by cases hz9) (by decide) (by decide) cl_L_21 (by decide +kernel) (by decide) dL_setValue_13 ic_1 dL_setValue_15 dL_setValue_16 (re_i h)
    · skip
      refine sw_e h (fun he h => ?_) (fun hne1 h => ?_)
      · subst he
        exact rw_catch C g_X9_setValue hc_9 o_0 ml_L_33 hM rfl rfl (by exact Nat.le_of_ble_eq_true rfl) ⟨Nat.le_of_ble_eq_true rfl, Nat.le_of_ble_eq_true rfl, Nat.le_of_ble_eq_true rfl⟩ dL_setValue_5 [⟨0, 10, 13, 21⟩] ⟨0, 10, 17, 13⟩ [] rfl (fun z9 hz9 => by rcases List.mem_singleton.mp hz9 with rfl; exact Or.inr ⟨by decide, _, cl_L_21, by decide⟩) (by decide) (by decide) cl_L_13 (by decide +kernel) (by decide) dL_setValue_17 ic_2 dL_setValue_19 dL_setValue_20 (re_i h)
      · exact no_e h
def wL_count (σ : Mem) (a1 : Int32) : Option (Int32 × Mem) := bx (fX9_count σ a1) (fun r σ1 => some ((0 : Int32), mst σ1 155 0 r)) (fun e σ1 => if e = "java/lang/IllegalArgumentException" then some (1, σ1) else none)

set_option maxHeartbeats 4000000 in
set_option maxRecDepth 100000 in
theorem cL_count_c {l : Launch} {D : va_G} {ad : Nat → Nat} {cy : Nat → ClassId} (hl : l.stackTraces = false) (hI : Inj ad) {σ τ : Mem} {a1 : Int32} {r : Int32} (h : wL_count σ a1 = some (r, τ)) : CoW l D ad cy yL_count cL_count 4 (some .int) [(0, 9, 12, 13)] 7 192 1 [.ref (ad 0), .int a1, .ref (ad 155)] σ (zi r) τ := by
  refine cow_of (av := [.inr 0, .inl a1, .inr 155]) hl hI (by decide +kernel) (Nat.le_of_ble_eq_true rfl) [some (.inr 0), some (.inl a1), some (.inr 155), none] rfl (fun V C => ?_)
  have C : Rg l D ad cy RL cL_count 4 7 192 1 (tableOf [(0, 9, 12, 13)]) (FW D ad cy (zi r) τ 1) pT V := C
  refine rg_aload_n C dL_count_0 rfl ?_
  refine rg_iconst C ic_0 dL_count_1 ?_
  refine rg_aload_n C dL_count_2 rfl ?_
  refine rg_iload_n C dL_count_3 rfl ?_
  refine bx_e h (fun v σ1 hf h => ?_) (fun e9 σ1 hf h => ?_)
  · have hM := mX9_count hl (D := D) (cy := cy) hI hf
    refine rg_callV C g_X9_count hc_9 o_0 ml_L_36 hM rfl rfl (by exact Nat.le_of_ble_eq_true rfl) ⟨Nat.le_of_ble_eq_true rfl, Nat.le_of_ble_eq_true rfl, Nat.le_of_ble_eq_true rfl⟩ dL_count_4 ?_
    have h : lt (mst σ1 155 0 v) (fun σ2 => some ((0 : Int32), σ2)) = some (r, τ) := h
    refine rg_i2l C dL_count_7 ?_
    refine rg_lastore C h dL_count_8 (fun σ2 h => ?_)
    refine rg_goto C (tgt := 15) (by decide) dL_count_9 ?_
    refine rg_iconst C ic_0 dL_count_15 ?_
    exact rw_iret C (Nat.le_of_ble_eq_true rfl) dL_count_16 (re_i h)
  · have hM := mX9_count hl (D := D) (cy := cy) hI hf
    refine sw_e h (fun he h => ?_) (fun hne0 h => ?_)
    · subst he
      exact rw_catchn C g_X9_count hc_9 o_0 ml_L_36 hM rfl rfl (by exact Nat.le_of_ble_eq_true rfl) ⟨Nat.le_of_ble_eq_true rfl, Nat.le_of_ble_eq_true rfl, Nat.le_of_ble_eq_true rfl⟩ dL_count_4 [] ⟨0, 9, 12, 13⟩ [] rfl (fun z9 hz9 => by cases hz9) (by decide) (by decide) cl_L_13 (by decide +kernel) (by decide) dL_count_12 ic_1 dL_count_13 dL_count_14 (re_i h)
    · exact no_e h
def wL_constraint (σ : Mem) (a1 a2 : Int32) : Option (Int32 × Mem) := bx (fX9_constraint σ a1 a2) (fun r σ1 => some ((0 : Int32), mst σ1 155 0 r)) (fun e σ1 => if e = "java/lang/IndexOutOfBoundsException" then some (1, σ1) else if e = "java/lang/IllegalArgumentException" then some (2, σ1) else none)

set_option maxHeartbeats 4000000 in
set_option maxRecDepth 100000 in
theorem cL_constraint_c {l : Launch} {D : va_G} {ad : Nat → Nat} {cy : Nat → ClassId} (hl : l.stackTraces = false) (hI : Inj ad) {σ τ : Mem} {a1 a2 : Int32} {r : Int32} (h : wL_constraint σ a1 a2 = some (r, τ)) : CoW l D ad cy yL_constraint cL_constraint 5 (some .int) [(0, 10, 13, 21), (0, 10, 17, 13)] 8 143 2 [.ref (ad 0), .int a1, .int a2, .ref (ad 155)] σ (zi r) τ := by
  refine cow_of (av := [.inr 0, .inl a1, .inl a2, .inr 155]) hl hI (by decide +kernel) (Nat.le_of_ble_eq_true rfl) [some (.inr 0), some (.inl a1), some (.inl a2), some (.inr 155), none] rfl (fun V C => ?_)
  have C : Rg l D ad cy RL cL_constraint 5 8 143 2 (tableOf [(0, 10, 13, 21), (0, 10, 17, 13)]) (FW D ad cy (zi r) τ 2) pT V := C
  refine rg_aload_n C dL_constraint_0 rfl ?_
  refine rg_iconst C ic_0 dL_constraint_1 ?_
  refine rg_aload_n C dL_constraint_2 rfl ?_
  refine rg_iload_n C dL_constraint_3 rfl ?_
  refine rg_iload_n C dL_constraint_4 rfl ?_
  refine bx_e h (fun v σ1 hf h => ?_) (fun e9 σ1 hf h => ?_)
  · have hM := mX9_constraint hl (D := D) (cy := cy) hI hf
    refine rg_callV C g_X9_constraint hc_9 o_0 ml_L_39 hM rfl rfl (by exact Nat.le_of_ble_eq_true rfl) ⟨Nat.le_of_ble_eq_true rfl, Nat.le_of_ble_eq_true rfl, Nat.le_of_ble_eq_true rfl⟩ dL_constraint_5 ?_
    have h : lt (mst σ1 155 0 v) (fun σ2 => some ((0 : Int32), σ2)) = some (r, τ) := h
    refine rg_i2l C dL_constraint_8 ?_
    refine rg_lastore C h dL_constraint_9 (fun σ2 h => ?_)
    refine rg_goto C (tgt := 21) (by decide) dL_constraint_10 ?_
    refine rg_iconst C ic_0 dL_constraint_21 ?_
    exact rw_iret C (Nat.le_of_ble_eq_true rfl) dL_constraint_22 (re_i h)
  · have hM := mX9_constraint hl (D := D) (cy := cy) hI hf
    refine sw_e h (fun he h => ?_) (fun hne0 h => ?_)
    · subst he
      exact rw_catch C g_X9_constraint hc_9 o_0 ml_L_39 hM rfl rfl (by exact Nat.le_of_ble_eq_true rfl) ⟨Nat.le_of_ble_eq_true rfl, Nat.le_of_ble_eq_true rfl, Nat.le_of_ble_eq_true rfl⟩ dL_constraint_5 [] ⟨0, 10, 13, 21⟩ [⟨0, 10, 17, 13⟩] rfl (fun z9 hz9 => by cases hz9) (by decide) (by decide) cl_L_21 (by decide +kernel) (by decide) dL_constraint_13 ic_1 dL_constraint_15 dL_constraint_16 (re_i h)
    · skip
      refine sw_e h (fun he h => ?_) (fun hne1 h => ?_)
      · subst he
        exact rw_catch C g_X9_constraint hc_9 o_0 ml_L_39 hM rfl rfl (by exact Nat.le_of_ble_eq_true rfl) ⟨Nat.le_of_ble_eq_true rfl, Nat.le_of_ble_eq_true rfl, Nat.le_of_ble_eq_true rfl⟩ dL_constraint_5 [⟨0, 10, 13, 21⟩] ⟨0, 10, 17, 13⟩ [] rfl (fun z9 hz9 => by rcases List.mem_singleton.mp hz9 with rfl; exact Or.inr ⟨by decide, _, cl_L_21, by decide⟩) (by decide) (by decide) cl_L_13 (by decide +kernel) (by decide) dL_constraint_17 ic_2 dL_constraint_19 dL_constraint_20 (re_i h)
      · exact no_e h
def wL_variable (σ : Mem) (a1 a2 : Int32) : Option (Int32 × Mem) := bx (fX9_variable σ a1 a2) (fun r σ1 => some ((0 : Int32), mst σ1 155 0 r)) (fun e σ1 => if e = "java/lang/IndexOutOfBoundsException" then some (1, σ1) else if e = "java/lang/IllegalArgumentException" then some (2, σ1) else none)

set_option maxHeartbeats 4000000 in
set_option maxRecDepth 100000 in
theorem cL_variable_c {l : Launch} {D : va_G} {ad : Nat → Nat} {cy : Nat → ClassId} (hl : l.stackTraces = false) (hI : Inj ad) {σ τ : Mem} {a1 a2 : Int32} {r : Int32} (h : wL_variable σ a1 a2 = some (r, τ)) : CoW l D ad cy yL_variable cL_variable 5 (some .int) [(0, 10, 13, 21), (0, 10, 17, 13)] 8 194 2 [.ref (ad 0), .int a1, .int a2, .ref (ad 155)] σ (zi r) τ := by
  refine cow_of (av := [.inr 0, .inl a1, .inl a2, .inr 155]) hl hI (by decide +kernel) (Nat.le_of_ble_eq_true rfl) [some (.inr 0), some (.inl a1), some (.inl a2), some (.inr 155), none] rfl (fun V C => ?_)
  have C : Rg l D ad cy RL cL_variable 5 8 194 2 (tableOf [(0, 10, 13, 21), (0, 10, 17, 13)]) (FW D ad cy (zi r) τ 2) pT V := C
  refine rg_aload_n C dL_variable_0 rfl ?_
  refine rg_iconst C ic_0 dL_variable_1 ?_
  refine rg_aload_n C dL_variable_2 rfl ?_
  refine rg_iload_n C dL_variable_3 rfl ?_
  refine rg_iload_n C dL_variable_4 rfl ?_
  refine bx_e h (fun v σ1 hf h => ?_) (fun e9 σ1 hf h => ?_)
  · have hM := mX9_variable hl (D := D) (cy := cy) hI hf
    refine rg_callV C g_X9_variable hc_9 o_0 ml_L_42 hM rfl rfl (by exact Nat.le_of_ble_eq_true rfl) ⟨Nat.le_of_ble_eq_true rfl, Nat.le_of_ble_eq_true rfl, Nat.le_of_ble_eq_true rfl⟩ dL_variable_5 ?_
    have h : lt (mst σ1 155 0 v) (fun σ2 => some ((0 : Int32), σ2)) = some (r, τ) := h
    refine rg_i2l C dL_variable_8 ?_
    refine rg_lastore C h dL_variable_9 (fun σ2 h => ?_)
    refine rg_goto C (tgt := 21) (by decide) dL_variable_10 ?_
    refine rg_iconst C ic_0 dL_variable_21 ?_
    exact rw_iret C (Nat.le_of_ble_eq_true rfl) dL_variable_22 (re_i h)
  · have hM := mX9_variable hl (D := D) (cy := cy) hI hf
    refine sw_e h (fun he h => ?_) (fun hne0 h => ?_)
    · subst he
      exact rw_catch C g_X9_variable hc_9 o_0 ml_L_42 hM rfl rfl (by exact Nat.le_of_ble_eq_true rfl) ⟨Nat.le_of_ble_eq_true rfl, Nat.le_of_ble_eq_true rfl, Nat.le_of_ble_eq_true rfl⟩ dL_variable_5 [] ⟨0, 10, 13, 21⟩ [⟨0, 10, 17, 13⟩] rfl (fun z9 hz9 => by cases hz9) (by decide) (by decide) cl_L_21 (by decide +kernel) (by decide) dL_variable_13 ic_1 dL_variable_15 dL_variable_16 (re_i h)
    · skip
      refine sw_e h (fun he h => ?_) (fun hne1 h => ?_)
      · subst he
        exact rw_catch C g_X9_variable hc_9 o_0 ml_L_42 hM rfl rfl (by exact Nat.le_of_ble_eq_true rfl) ⟨Nat.le_of_ble_eq_true rfl, Nat.le_of_ble_eq_true rfl, Nat.le_of_ble_eq_true rfl⟩ dL_variable_5 [⟨0, 10, 13, 21⟩] ⟨0, 10, 17, 13⟩ [] rfl (fun z9 hz9 => by rcases List.mem_singleton.mp hz9 with rfl; exact Or.inr ⟨by decide, _, cl_L_21, by decide⟩) (by decide) (by decide) cl_L_13 (by decide +kernel) (by decide) dL_variable_17 ic_2 dL_variable_19 dL_variable_20 (re_i h)
      · exact no_e h
def wL_violation (σ : Mem) (a1 a2 : Int32) : Option (Int32 × Mem) := bx (fX9_violation σ a1 a2) (fun r σ1 => some ((0 : Int32), mst σ1 155 0 r)) (fun e σ1 => if e = "java/lang/IndexOutOfBoundsException" then some (1, σ1) else none)

set_option maxHeartbeats 4000000 in
set_option maxRecDepth 100000 in
theorem cL_violation_c {l : Launch} {D : va_G} {ad : Nat → Nat} {cy : Nat → ClassId} (hl : l.stackTraces = false) (hI : Inj ad) {σ τ : Mem} {a1 a2 : Int32} {r : Int32} (h : wL_violation σ a1 a2 = some (r, τ)) : CoW l D ad cy yL_violation cL_violation 5 (some .int) [(0, 10, 13, 21)] 8 171 1 [.ref (ad 0), .int a1, .int a2, .ref (ad 155)] σ (zi r) τ := by
  refine cow_of (av := [.inr 0, .inl a1, .inl a2, .inr 155]) hl hI (by decide +kernel) (Nat.le_of_ble_eq_true rfl) [some (.inr 0), some (.inl a1), some (.inl a2), some (.inr 155), none] rfl (fun V C => ?_)
  have C : Rg l D ad cy RL cL_violation 5 8 171 1 (tableOf [(0, 10, 13, 21)]) (FW D ad cy (zi r) τ 1) pT V := C
  refine rg_aload_n C dL_violation_0 rfl ?_
  refine rg_iconst C ic_0 dL_violation_1 ?_
  refine rg_aload_n C dL_violation_2 rfl ?_
  refine rg_iload_n C dL_violation_3 rfl ?_
  refine rg_iload_n C dL_violation_4 rfl ?_
  refine bx_e h (fun v σ1 hf h => ?_) (fun e9 σ1 hf h => ?_)
  · have hM := mX9_violation hl (D := D) (cy := cy) hI hf
    refine rg_callV C g_X9_violation hc_9 o_0 ml_L_45 hM rfl rfl (by exact Nat.le_of_ble_eq_true rfl) ⟨Nat.le_of_ble_eq_true rfl, Nat.le_of_ble_eq_true rfl, Nat.le_of_ble_eq_true rfl⟩ dL_violation_5 ?_
    have h : lt (mst σ1 155 0 v) (fun σ2 => some ((0 : Int32), σ2)) = some (r, τ) := h
    refine rg_i2l C dL_violation_8 ?_
    refine rg_lastore C h dL_violation_9 (fun σ2 h => ?_)
    refine rg_goto C (tgt := 17) (by decide) dL_violation_10 ?_
    refine rg_iconst C ic_0 dL_violation_17 ?_
    exact rw_iret C (Nat.le_of_ble_eq_true rfl) dL_violation_18 (re_i h)
  · have hM := mX9_violation hl (D := D) (cy := cy) hI hf
    refine sw_e h (fun he h => ?_) (fun hne0 h => ?_)
    · subst he
      exact rw_catch C g_X9_violation hc_9 o_0 ml_L_45 hM rfl rfl (by exact Nat.le_of_ble_eq_true rfl) ⟨Nat.le_of_ble_eq_true rfl, Nat.le_of_ble_eq_true rfl, Nat.le_of_ble_eq_true rfl⟩ dL_violation_5 [] ⟨0, 10, 13, 21⟩ [] rfl (fun z9 hz9 => by cases hz9) (by decide) (by decide) cl_L_21 (by decide +kernel) (by decide) dL_violation_13 ic_1 dL_violation_15 dL_violation_16 (re_i h)
    · exact no_e h
def wL_mostBlamed (σ : Mem) : Option (Int32 × Mem) := bx (fX9_mostBlamed σ) (fun r σ1 => some ((0 : Int32), mst σ1 155 0 r)) (fun e σ1 => if e = "java/util/NoSuchElementException" then some (1, σ1) else none)

set_option maxHeartbeats 4000000 in
set_option maxRecDepth 100000 in
theorem cL_mostBlamed_c {l : Launch} {D : va_G} {ad : Nat → Nat} {cy : Nat → ClassId} (hl : l.stackTraces = false) (hI : Inj ad) {σ τ : Mem} {r : Int32} (h : wL_mostBlamed σ = some (r, τ)) : CoW l D ad cy yL_mostBlamed cL_mostBlamed 3 (some .int) [(0, 8, 11, 53)] 7 196 1 [.ref (ad 0), .ref (ad 155)] σ (zi r) τ := by
  refine cow_of (av := [.inr 0, .inr 155]) hl hI (by decide +kernel) (Nat.le_of_ble_eq_true rfl) [some (.inr 0), some (.inr 155), none] rfl (fun V C => ?_)
  have C : Rg l D ad cy RL cL_mostBlamed 3 7 196 1 (tableOf [(0, 8, 11, 53)]) (FW D ad cy (zi r) τ 1) pT V := C
  refine rg_aload_n C dL_mostBlamed_0 rfl ?_
  refine rg_iconst C ic_0 dL_mostBlamed_1 ?_
  refine rg_aload_n C dL_mostBlamed_2 rfl ?_
  refine bx_e h (fun v σ1 hf h => ?_) (fun e9 σ1 hf h => ?_)
  · have hM := mX9_mostBlamed hl (D := D) (cy := cy) hI hf
    refine rg_callV C g_X9_mostBlamed hc_9 o_0 ml_L_49 hM rfl rfl (by exact Nat.le_of_ble_eq_true rfl) ⟨Nat.le_of_ble_eq_true rfl, Nat.le_of_ble_eq_true rfl, Nat.le_of_ble_eq_true rfl⟩ dL_mostBlamed_3 ?_
    have h : lt (mst σ1 155 0 v) (fun σ2 => some ((0 : Int32), σ2)) = some (r, τ) := h
    refine rg_i2l C dL_mostBlamed_6 ?_
    refine rg_lastore C h dL_mostBlamed_7 (fun σ2 h => ?_)
    refine rg_goto C (tgt := 14) (by decide) dL_mostBlamed_8 ?_
    refine rg_iconst C ic_0 dL_mostBlamed_14 ?_
    exact rw_iret C (Nat.le_of_ble_eq_true rfl) dL_mostBlamed_15 (re_i h)
  · have hM := mX9_mostBlamed hl (D := D) (cy := cy) hI hf
    refine sw_e h (fun he h => ?_) (fun hne0 h => ?_)
    · subst he
      exact rw_catchn C g_X9_mostBlamed hc_9 o_0 ml_L_49 hM rfl rfl (by exact Nat.le_of_ble_eq_true rfl) ⟨Nat.le_of_ble_eq_true rfl, Nat.le_of_ble_eq_true rfl, Nat.le_of_ble_eq_true rfl⟩ dL_mostBlamed_3 [] ⟨0, 8, 11, 53⟩ [] rfl (fun z9 hz9 => by cases hz9) (by decide) (by decide) cl_L_53 (by decide +kernel) (by decide) dL_mostBlamed_11 ic_1 dL_mostBlamed_12 dL_mostBlamed_13 (re_i h)
    · exact no_e h
def wL_relief (σ : Mem) (a1 : Int32) : Option (Int32 × Mem) := bx (fX9_relief σ a1) (fun r σ1 => some ((0 : Int32), mst σ1 155 0 r)) (fun e σ1 => if e = "java/lang/IndexOutOfBoundsException" then some (1, σ1) else none)

set_option maxHeartbeats 4000000 in
set_option maxRecDepth 100000 in
theorem cL_relief_c {l : Launch} {D : va_G} {ad : Nat → Nat} {cy : Nat → ClassId} (hl : l.stackTraces = false) (hI : Inj ad) {σ τ : Mem} {a1 : Int32} {r : Int32} (h : wL_relief σ a1 = some (r, τ)) : CoW l D ad cy yL_relief cL_relief 4 (some .int) [(0, 9, 12, 21)] 8 237 1 [.ref (ad 0), .int a1, .ref (ad 155)] σ (zi r) τ := by
  refine cow_of (av := [.inr 0, .inl a1, .inr 155]) hl hI (by decide +kernel) (Nat.le_of_ble_eq_true rfl) [some (.inr 0), some (.inl a1), some (.inr 155), none] rfl (fun V C => ?_)
  have C : Rg l D ad cy RL cL_relief 4 8 237 1 (tableOf [(0, 9, 12, 21)]) (FW D ad cy (zi r) τ 1) pT V := C
  refine rg_aload_n C dL_relief_0 rfl ?_
  refine rg_iconst C ic_0 dL_relief_1 ?_
  refine rg_aload_n C dL_relief_2 rfl ?_
  refine rg_iload_n C dL_relief_3 rfl ?_
  refine bx_e h (fun v σ1 hf h => ?_) (fun e9 σ1 hf h => ?_)
  · have hM := mX9_relief hl (D := D) (cy := cy) hI hf
    refine rg_callV C g_X9_relief hc_9 o_0 ml_L_55 hM rfl rfl (by exact Nat.le_of_ble_eq_true rfl) ⟨Nat.le_of_ble_eq_true rfl, Nat.le_of_ble_eq_true rfl, Nat.le_of_ble_eq_true rfl⟩ dL_relief_4 ?_
    have h : lt (mst σ1 155 0 v) (fun σ2 => some ((0 : Int32), σ2)) = some (r, τ) := h
    refine rg_i2l C dL_relief_7 ?_
    refine rg_lastore C h dL_relief_8 (fun σ2 h => ?_)
    refine rg_goto C (tgt := 15) (by decide) dL_relief_9 ?_
    refine rg_iconst C ic_0 dL_relief_15 ?_
    exact rw_iret C (Nat.le_of_ble_eq_true rfl) dL_relief_16 (re_i h)
  · have hM := mX9_relief hl (D := D) (cy := cy) hI hf
    refine sw_e h (fun he h => ?_) (fun hne0 h => ?_)
    · subst he
      exact rw_catchn C g_X9_relief hc_9 o_0 ml_L_55 hM rfl rfl (by exact Nat.le_of_ble_eq_true rfl) ⟨Nat.le_of_ble_eq_true rfl, Nat.le_of_ble_eq_true rfl, Nat.le_of_ble_eq_true rfl⟩ dL_relief_4 [] ⟨0, 9, 12, 21⟩ [] rfl (fun z9 hz9 => by cases hz9) (by decide) (by decide) cl_L_21 (by decide +kernel) (by decide) dL_relief_12 ic_1 dL_relief_13 dL_relief_14 (re_i h)
    · exact no_e h
def wL_setNeighborhood (σ : Mem) (a1 : Int32) : Option (Int32 × Mem) := bx (fX9_setNeighborhood σ a1) (fun r σ1 => some ((0 : Int32), mst σ1 155 0 r)) (fun e σ1 => if e = "java/lang/IllegalArgumentException" then some (1, σ1) else none)

set_option maxHeartbeats 4000000 in
set_option maxRecDepth 100000 in
theorem cL_setNeighborhood_c {l : Launch} {D : va_G} {ad : Nat → Nat} {cy : Nat → ClassId} (hl : l.stackTraces = false) (hI : Inj ad) {σ τ : Mem} {a1 : Int32} {r : Int32} (h : wL_setNeighborhood σ a1 = some (r, τ)) : CoW l D ad cy yL_setNeighborhood cL_setNeighborhood 4 (some .int) [(0, 9, 12, 13)] 8 144 1 [.ref (ad 0), .int a1, .ref (ad 155)] σ (zi r) τ := by
  refine cow_of (av := [.inr 0, .inl a1, .inr 155]) hl hI (by decide +kernel) (Nat.le_of_ble_eq_true rfl) [some (.inr 0), some (.inl a1), some (.inr 155), none] rfl (fun V C => ?_)
  have C : Rg l D ad cy RL cL_setNeighborhood 4 8 144 1 (tableOf [(0, 9, 12, 13)]) (FW D ad cy (zi r) τ 1) pT V := C
  refine rg_aload_n C dL_setNeighborhood_0 rfl ?_
  refine rg_iconst C ic_0 dL_setNeighborhood_1 ?_
  refine rg_aload_n C dL_setNeighborhood_2 rfl ?_
  refine rg_iload_n C dL_setNeighborhood_3 rfl ?_
  refine bx_e h (fun v σ1 hf h => ?_) (fun e9 σ1 hf h => ?_)
  · have hM := mX9_setNeighborhood hl (D := D) (cy := cy) hI hf
    refine rg_callV C g_X9_setNeighborhood hc_9 o_0 ml_L_58 hM rfl rfl (by exact Nat.le_of_ble_eq_true rfl) ⟨Nat.le_of_ble_eq_true rfl, Nat.le_of_ble_eq_true rfl, Nat.le_of_ble_eq_true rfl⟩ dL_setNeighborhood_4 ?_
    have h : lt (mst σ1 155 0 v) (fun σ2 => some ((0 : Int32), σ2)) = some (r, τ) := h
    refine rg_i2l C dL_setNeighborhood_7 ?_
    refine rg_lastore C h dL_setNeighborhood_8 (fun σ2 h => ?_)
    refine rg_goto C (tgt := 15) (by decide) dL_setNeighborhood_9 ?_
    refine rg_iconst C ic_0 dL_setNeighborhood_15 ?_
    exact rw_iret C (Nat.le_of_ble_eq_true rfl) dL_setNeighborhood_16 (re_i h)
  · have hM := mX9_setNeighborhood hl (D := D) (cy := cy) hI hf
    refine sw_e h (fun he h => ?_) (fun hne0 h => ?_)
    · subst he
      exact rw_catchn C g_X9_setNeighborhood hc_9 o_0 ml_L_58 hM rfl rfl (by exact Nat.le_of_ble_eq_true rfl) ⟨Nat.le_of_ble_eq_true rfl, Nat.le_of_ble_eq_true rfl, Nat.le_of_ble_eq_true rfl⟩ dL_setNeighborhood_4 [] ⟨0, 9, 12, 13⟩ [] rfl (fun z9 hz9 => by cases hz9) (by decide) (by decide) cl_L_13 (by decide +kernel) (by decide) dL_setNeighborhood_12 ic_1 dL_setNeighborhood_13 dL_setNeighborhood_14 (re_i h)
    · exact no_e h
def wL_setTenure (σ : Mem) (a1 : Int32) : Option (Int32 × Mem) := bx (fX9_setTenure σ a1) (fun r σ1 => some ((0 : Int32), mst σ1 155 0 r)) (fun e σ1 => if e = "java/lang/IllegalArgumentException" then some (1, σ1) else none)

set_option maxHeartbeats 4000000 in
set_option maxRecDepth 100000 in
theorem cL_setTenure_c {l : Launch} {D : va_G} {ad : Nat → Nat} {cy : Nat → ClassId} (hl : l.stackTraces = false) (hI : Inj ad) {σ τ : Mem} {a1 : Int32} {r : Int32} (h : wL_setTenure σ a1 = some (r, τ)) : CoW l D ad cy yL_setTenure cL_setTenure 4 (some .int) [(0, 9, 12, 13)] 8 144 1 [.ref (ad 0), .int a1, .ref (ad 155)] σ (zi r) τ := by
  refine cow_of (av := [.inr 0, .inl a1, .inr 155]) hl hI (by decide +kernel) (Nat.le_of_ble_eq_true rfl) [some (.inr 0), some (.inl a1), some (.inr 155), none] rfl (fun V C => ?_)
  have C : Rg l D ad cy RL cL_setTenure 4 8 144 1 (tableOf [(0, 9, 12, 13)]) (FW D ad cy (zi r) τ 1) pT V := C
  refine rg_aload_n C dL_setTenure_0 rfl ?_
  refine rg_iconst C ic_0 dL_setTenure_1 ?_
  refine rg_aload_n C dL_setTenure_2 rfl ?_
  refine rg_iload_n C dL_setTenure_3 rfl ?_
  refine bx_e h (fun v σ1 hf h => ?_) (fun e9 σ1 hf h => ?_)
  · have hM := mX9_setTenure hl (D := D) (cy := cy) hI hf
    refine rg_callV C g_X9_setTenure hc_9 o_0 ml_L_61 hM rfl rfl (by exact Nat.le_of_ble_eq_true rfl) ⟨Nat.le_of_ble_eq_true rfl, Nat.le_of_ble_eq_true rfl, Nat.le_of_ble_eq_true rfl⟩ dL_setTenure_4 ?_
    have h : lt (mst σ1 155 0 v) (fun σ2 => some ((0 : Int32), σ2)) = some (r, τ) := h
    refine rg_i2l C dL_setTenure_7 ?_
    refine rg_lastore C h dL_setTenure_8 (fun σ2 h => ?_)
    refine rg_goto C (tgt := 15) (by decide) dL_setTenure_9 ?_
    refine rg_iconst C ic_0 dL_setTenure_15 ?_
    exact rw_iret C (Nat.le_of_ble_eq_true rfl) dL_setTenure_16 (re_i h)
  · have hM := mX9_setTenure hl (D := D) (cy := cy) hI hf
    refine sw_e h (fun he h => ?_) (fun hne0 h => ?_)
    · subst he
      exact rw_catchn C g_X9_setTenure hc_9 o_0 ml_L_61 hM rfl rfl (by exact Nat.le_of_ble_eq_true rfl) ⟨Nat.le_of_ble_eq_true rfl, Nat.le_of_ble_eq_true rfl, Nat.le_of_ble_eq_true rfl⟩ dL_setTenure_4 [] ⟨0, 9, 12, 13⟩ [] rfl (fun z9 hz9 => by cases hz9) (by decide) (by decide) cl_L_13 (by decide +kernel) (by decide) dL_setTenure_12 ic_1 dL_setTenure_13 dL_setTenure_14 (re_i h)
    · exact no_e h
def wL_setPatience (σ : Mem) (a1 : Int32) : Option (Int32 × Mem) := bx (fX9_setPatience σ a1) (fun r σ1 => some ((0 : Int32), mst σ1 155 0 r)) (fun e σ1 => if e = "java/lang/IllegalArgumentException" then some (1, σ1) else none)

set_option maxHeartbeats 4000000 in
set_option maxRecDepth 100000 in
theorem cL_setPatience_c {l : Launch} {D : va_G} {ad : Nat → Nat} {cy : Nat → ClassId} (hl : l.stackTraces = false) (hI : Inj ad) {σ τ : Mem} {a1 : Int32} {r : Int32} (h : wL_setPatience σ a1 = some (r, τ)) : CoW l D ad cy yL_setPatience cL_setPatience 4 (some .int) [(0, 9, 12, 13)] 8 144 1 [.ref (ad 0), .int a1, .ref (ad 155)] σ (zi r) τ := by
  refine cow_of (av := [.inr 0, .inl a1, .inr 155]) hl hI (by decide +kernel) (Nat.le_of_ble_eq_true rfl) [some (.inr 0), some (.inl a1), some (.inr 155), none] rfl (fun V C => ?_)
  have C : Rg l D ad cy RL cL_setPatience 4 8 144 1 (tableOf [(0, 9, 12, 13)]) (FW D ad cy (zi r) τ 1) pT V := C
  refine rg_aload_n C dL_setPatience_0 rfl ?_
  refine rg_iconst C ic_0 dL_setPatience_1 ?_
  refine rg_aload_n C dL_setPatience_2 rfl ?_
  refine rg_iload_n C dL_setPatience_3 rfl ?_
  refine bx_e h (fun v σ1 hf h => ?_) (fun e9 σ1 hf h => ?_)
  · have hM := mX9_setPatience hl (D := D) (cy := cy) hI hf
    refine rg_callV C g_X9_setPatience hc_9 o_0 ml_L_64 hM rfl rfl (by exact Nat.le_of_ble_eq_true rfl) ⟨Nat.le_of_ble_eq_true rfl, Nat.le_of_ble_eq_true rfl, Nat.le_of_ble_eq_true rfl⟩ dL_setPatience_4 ?_
    have h : lt (mst σ1 155 0 v) (fun σ2 => some ((0 : Int32), σ2)) = some (r, τ) := h
    refine rg_i2l C dL_setPatience_7 ?_
    refine rg_lastore C h dL_setPatience_8 (fun σ2 h => ?_)
    refine rg_goto C (tgt := 15) (by decide) dL_setPatience_9 ?_
    refine rg_iconst C ic_0 dL_setPatience_15 ?_
    exact rw_iret C (Nat.le_of_ble_eq_true rfl) dL_setPatience_16 (re_i h)
  · have hM := mX9_setPatience hl (D := D) (cy := cy) hI hf
    refine sw_e h (fun he h => ?_) (fun hne0 h => ?_)
    · subst he
      exact rw_catchn C g_X9_setPatience hc_9 o_0 ml_L_64 hM rfl rfl (by exact Nat.le_of_ble_eq_true rfl) ⟨Nat.le_of_ble_eq_true rfl, Nat.le_of_ble_eq_true rfl, Nat.le_of_ble_eq_true rfl⟩ dL_setPatience_4 [] ⟨0, 9, 12, 13⟩ [] rfl (fun z9 hz9 => by cases hz9) (by decide) (by decide) cl_L_13 (by decide +kernel) (by decide) dL_setPatience_12 ic_1 dL_setPatience_13 dL_setPatience_14 (re_i h)
    · exact no_e h
def wL_setSeed (σ : Mem) (a1 : Int32) : Option (Int32 × Mem) := bx (fX9_setSeed σ a1) (fun r σ1 => some ((0 : Int32), mst σ1 155 0 r)) (fun e σ1 => if e = "java/lang/IllegalArgumentException" then some (1, σ1) else none)

set_option maxHeartbeats 4000000 in
set_option maxRecDepth 100000 in
theorem cL_setSeed_c {l : Launch} {D : va_G} {ad : Nat → Nat} {cy : Nat → ClassId} (hl : l.stackTraces = false) (hI : Inj ad) {σ τ : Mem} {a1 : Int32} {r : Int32} (h : wL_setSeed σ a1 = some (r, τ)) : CoW l D ad cy yL_setSeed cL_setSeed 4 (some .int) [(0, 9, 12, 13)] 8 144 1 [.ref (ad 0), .int a1, .ref (ad 155)] σ (zi r) τ := by
  refine cow_of (av := [.inr 0, .inl a1, .inr 155]) hl hI (by decide +kernel) (Nat.le_of_ble_eq_true rfl) [some (.inr 0), some (.inl a1), some (.inr 155), none] rfl (fun V C => ?_)
  have C : Rg l D ad cy RL cL_setSeed 4 8 144 1 (tableOf [(0, 9, 12, 13)]) (FW D ad cy (zi r) τ 1) pT V := C
  refine rg_aload_n C dL_setSeed_0 rfl ?_
  refine rg_iconst C ic_0 dL_setSeed_1 ?_
  refine rg_aload_n C dL_setSeed_2 rfl ?_
  refine rg_iload_n C dL_setSeed_3 rfl ?_
  refine bx_e h (fun v σ1 hf h => ?_) (fun e9 σ1 hf h => ?_)
  · have hM := mX9_setSeed hl (D := D) (cy := cy) hI hf
    refine rg_callV C g_X9_setSeed hc_9 o_0 ml_L_67 hM rfl rfl (by exact Nat.le_of_ble_eq_true rfl) ⟨Nat.le_of_ble_eq_true rfl, Nat.le_of_ble_eq_true rfl, Nat.le_of_ble_eq_true rfl⟩ dL_setSeed_4 ?_
    have h : lt (mst σ1 155 0 v) (fun σ2 => some ((0 : Int32), σ2)) = some (r, τ) := h
    refine rg_i2l C dL_setSeed_7 ?_
    refine rg_lastore C h dL_setSeed_8 (fun σ2 h => ?_)
    refine rg_goto C (tgt := 15) (by decide) dL_setSeed_9 ?_
    refine rg_iconst C ic_0 dL_setSeed_15 ?_
    exact rw_iret C (Nat.le_of_ble_eq_true rfl) dL_setSeed_16 (re_i h)
  · have hM := mX9_setSeed hl (D := D) (cy := cy) hI hf
    refine sw_e h (fun he h => ?_) (fun hne0 h => ?_)
    · subst he
      exact rw_catchn C g_X9_setSeed hc_9 o_0 ml_L_67 hM rfl rfl (by exact Nat.le_of_ble_eq_true rfl) ⟨Nat.le_of_ble_eq_true rfl, Nat.le_of_ble_eq_true rfl, Nat.le_of_ble_eq_true rfl⟩ dL_setSeed_4 [] ⟨0, 9, 12, 13⟩ [] rfl (fun z9 hz9 => by cases hz9) (by decide) (by decide) cl_L_13 (by decide +kernel) (by decide) dL_setSeed_12 ic_1 dL_setSeed_13 dL_setSeed_14 (re_i h)
    · exact no_e h
def wL_move (σ : Mem) (a1 a2 : Int32) : Option (Int32 × Mem) := bx (fX9_move σ a1 a2) (fun r σ1 => some ((0 : Int32), mst σ1 155 0 r)) (fun e σ1 => if e = "java/lang/IndexOutOfBoundsException" then some (1, σ1) else if e = "java/lang/IllegalArgumentException" then some (2, σ1) else none)

set_option maxHeartbeats 4000000 in
set_option maxRecDepth 100000 in
theorem cL_move_c {l : Launch} {D : va_G} {ad : Nat → Nat} {cy : Nat → ClassId} (hl : l.stackTraces = false) (hI : Inj ad) {σ τ : Mem} {a1 a2 : Int32} {r : Int32} (h : wL_move σ a1 a2 = some (r, τ)) : CoW l D ad cy yL_move cL_move 5 (some .int) [(0, 10, 13, 21), (0, 10, 17, 13)] 7 216 1 [.ref (ad 0), .int a1, .int a2, .ref (ad 155)] σ (zi r) τ := by
  refine cow_of (av := [.inr 0, .inl a1, .inl a2, .inr 155]) hl hI (by decide +kernel) (Nat.le_of_ble_eq_true rfl) [some (.inr 0), some (.inl a1), some (.inl a2), some (.inr 155), none] rfl (fun V C => ?_)
  have C : Rg l D ad cy RL cL_move 5 7 216 1 (tableOf [(0, 10, 13, 21), (0, 10, 17, 13)]) (FW D ad cy (zi r) τ 1) pT V := C
  refine rg_aload_n C dL_move_0 rfl ?_
  refine rg_iconst C ic_0 dL_move_1 ?_
  refine rg_aload_n C dL_move_2 rfl ?_
  refine rg_iload_n C dL_move_3 rfl ?_
  refine rg_iload_n C dL_move_4 rfl ?_
  refine bx_e h (fun v σ1 hf h => ?_) (fun e9 σ1 hf h => ?_)
  · have hM := mX9_move hl (D := D) (cy := cy) hI hf
    refine rg_callV C g_X9_move hc_9 o_0 ml_L_70 hM rfl rfl (by exact Nat.le_of_ble_eq_true rfl) ⟨Nat.le_of_ble_eq_true rfl, Nat.le_of_ble_eq_true rfl, Nat.le_of_ble_eq_true rfl⟩ dL_move_5 ?_
    have h : lt (mst σ1 155 0 v) (fun σ2 => some ((0 : Int32), σ2)) = some (r, τ) := h
    refine rg_i2l C dL_move_8 ?_
    refine rg_lastore C h dL_move_9 (fun σ2 h => ?_)
    refine rg_goto C (tgt := 21) (by decide) dL_move_10 ?_
    refine rg_iconst C ic_0 dL_move_21 ?_
    exact rw_iret C (Nat.le_of_ble_eq_true rfl) dL_move_22 (re_i h)
  · have hM := mX9_move hl (D := D) (cy := cy) hI hf
    refine sw_e h (fun he h => ?_) (fun hne0 h => ?_)
    · subst he
      exact rw_catch C g_X9_move hc_9 o_0 ml_L_70 hM rfl rfl (by exact Nat.le_of_ble_eq_true rfl) ⟨Nat.le_of_ble_eq_true rfl, Nat.le_of_ble_eq_true rfl, Nat.le_of_ble_eq_true rfl⟩ dL_move_5 [] ⟨0, 10, 13, 21⟩ [⟨0, 10, 17, 13⟩] rfl (fun z9 hz9 => by cases hz9) (by decide) (by decide) cl_L_21 (by decide +kernel) (by decide) dL_move_13 ic_1 dL_move_15 dL_move_16 (re_i h)
    · skip
      refine sw_e h (fun he h => ?_) (fun hne1 h => ?_)
      · subst he
        exact rw_catch C g_X9_move hc_9 o_0 ml_L_70 hM rfl rfl (by exact Nat.le_of_ble_eq_true rfl) ⟨Nat.le_of_ble_eq_true rfl, Nat.le_of_ble_eq_true rfl, Nat.le_of_ble_eq_true rfl⟩ dL_move_5 [⟨0, 10, 13, 21⟩] ⟨0, 10, 17, 13⟩ [] rfl (fun z9 hz9 => by rcases List.mem_singleton.mp hz9 with rfl; exact Or.inr ⟨by decide, _, cl_L_21, by decide⟩) (by decide) (by decide) cl_L_13 (by decide +kernel) (by decide) dL_move_17 ic_2 dL_move_19 dL_move_20 (re_i h)
      · exact no_e h
def wL_nextMove (σ : Mem) : Option (Int32 × Mem) := bx (fX9_nextMove σ) (fun r σ1 => some ((0 : Int32), mst σ1 155 0 r)) (fun e σ1 => if e = "java/util/NoSuchElementException" then some (1, σ1) else none)

set_option maxHeartbeats 4000000 in
set_option maxRecDepth 100000 in
theorem cL_nextMove_c {l : Launch} {D : va_G} {ad : Nat → Nat} {cy : Nat → ClassId} (hl : l.stackTraces = false) (hI : Inj ad) {σ τ : Mem} {r : Int32} (h : wL_nextMove σ = some (r, τ)) : CoW l D ad cy yL_nextMove cL_nextMove 3 (some .int) [(0, 8, 11, 53)] 7 243 1 [.ref (ad 0), .ref (ad 155)] σ (zi r) τ := by
  refine cow_of (av := [.inr 0, .inr 155]) hl hI (by decide +kernel) (Nat.le_of_ble_eq_true rfl) [some (.inr 0), some (.inr 155), none] rfl (fun V C => ?_)
  have C : Rg l D ad cy RL cL_nextMove 3 7 243 1 (tableOf [(0, 8, 11, 53)]) (FW D ad cy (zi r) τ 1) pT V := C
  refine rg_aload_n C dL_nextMove_0 rfl ?_
  refine rg_iconst C ic_0 dL_nextMove_1 ?_
  refine rg_aload_n C dL_nextMove_2 rfl ?_
  refine bx_e h (fun v σ1 hf h => ?_) (fun e9 σ1 hf h => ?_)
  · have hM := mX9_nextMove hl (D := D) (cy := cy) hI hf
    refine rg_callV C g_X9_nextMove hc_9 o_0 ml_L_73 hM rfl rfl (by exact Nat.le_of_ble_eq_true rfl) ⟨Nat.le_of_ble_eq_true rfl, Nat.le_of_ble_eq_true rfl, Nat.le_of_ble_eq_true rfl⟩ dL_nextMove_3 ?_
    have h : lt (mst σ1 155 0 v) (fun σ2 => some ((0 : Int32), σ2)) = some (r, τ) := h
    refine rg_i2l C dL_nextMove_6 ?_
    refine rg_lastore C h dL_nextMove_7 (fun σ2 h => ?_)
    refine rg_goto C (tgt := 14) (by decide) dL_nextMove_8 ?_
    refine rg_iconst C ic_0 dL_nextMove_14 ?_
    exact rw_iret C (Nat.le_of_ble_eq_true rfl) dL_nextMove_15 (re_i h)
  · have hM := mX9_nextMove hl (D := D) (cy := cy) hI hf
    refine sw_e h (fun he h => ?_) (fun hne0 h => ?_)
    · subst he
      exact rw_catchn C g_X9_nextMove hc_9 o_0 ml_L_73 hM rfl rfl (by exact Nat.le_of_ble_eq_true rfl) ⟨Nat.le_of_ble_eq_true rfl, Nat.le_of_ble_eq_true rfl, Nat.le_of_ble_eq_true rfl⟩ dL_nextMove_3 [] ⟨0, 8, 11, 53⟩ [] rfl (fun z9 hz9 => by cases hz9) (by decide) (by decide) cl_L_53 (by decide +kernel) (by decide) dL_nextMove_11 ic_1 dL_nextMove_12 dL_nextMove_13 (re_i h)
    · exact no_e h
def wL_isForbidden (σ : Mem) (a1 a2 : Int32) : Option (Int32 × Mem) := bx (fX9_isForbidden σ a1 a2) (fun r σ1 => some ((0 : Int32), mst σ1 155 0 (if r = 0 then 0 else 1))) (fun e σ1 => if e = "java/lang/IndexOutOfBoundsException" then some (1, σ1) else if e = "java/lang/IllegalArgumentException" then some (2, σ1) else none)

set_option maxHeartbeats 4000000 in
set_option maxRecDepth 100000 in
theorem cL_isForbidden_c {l : Launch} {D : va_G} {ad : Nat → Nat} {cy : Nat → ClassId} (hl : l.stackTraces = false) (hI : Inj ad) {σ τ : Mem} {a1 a2 : Int32} {r : Int32} (h : wL_isForbidden σ a1 a2 = some (r, τ)) : CoW l D ad cy yL_isForbidden cL_isForbidden 5 (some .int) [(0, 17, 20, 21), (0, 17, 24, 13)] 8 144 2 [.ref (ad 0), .int a1, .int a2, .ref (ad 155)] σ (zi r) τ := by
  refine cow_of (av := [.inr 0, .inl a1, .inl a2, .inr 155]) hl hI (by decide +kernel) (Nat.le_of_ble_eq_true rfl) [some (.inr 0), some (.inl a1), some (.inl a2), some (.inr 155), none] rfl (fun V C => ?_)
  have C : Rg l D ad cy RL cL_isForbidden 5 8 144 2 (tableOf [(0, 17, 20, 21), (0, 17, 24, 13)]) (FW D ad cy (zi r) τ 2) pT V := C
  refine rg_aload_n C dL_isForbidden_0 rfl ?_
  refine rg_iconst C ic_0 dL_isForbidden_1 ?_
  refine rg_aload_n C dL_isForbidden_2 rfl ?_
  refine rg_iload_n C dL_isForbidden_3 rfl ?_
  refine rg_iload_n C dL_isForbidden_4 rfl ?_
  refine bx_e h (fun v σ1 hf h => ?_) (fun e9 σ1 hf h => ?_)
  · have hM := mX9_isForbidden hl (D := D) (cy := cy) hI hf
    refine rg_callV C g_X9_isForbidden hc_9 o_0 ml_L_76 hM rfl rfl (by exact Nat.le_of_ble_eq_true rfl) ⟨Nat.le_of_ble_eq_true rfl, Nat.le_of_ble_eq_true rfl, Nat.le_of_ble_eq_true rfl⟩ dL_isForbidden_5 ?_
    have h : (if v = 0 then lt (mst σ1 155 0 0) (fun σ2 => some ((0 : Int32), σ2)) else lt (mst σ1 155 0 1) (fun σ2 => some ((0 : Int32), σ2))) = some (r, τ) := by rw [← h]; by_cases c : v = 0 <;> simp [c, lt]
    refine rg_if_eq C (tgt := 15) h (by decide) dL_isForbidden_8 (fun hc h => ?_) (fun hc h => ?_)
    · refine rg_lconst C (x := 0) (by decide) dL_isForbidden_15 ?_
      refine rg_lastore C h dL_isForbidden_16 (fun σ2 h => ?_)
      refine rg_goto C (tgt := 28) (by decide) dL_isForbidden_17 ?_
      refine rg_iconst C ic_0 dL_isForbidden_28 ?_
      exact rw_iret C (Nat.le_of_ble_eq_true rfl) dL_isForbidden_29 (re_i h)
    · refine rg_lconst C (x := 1) (by decide) dL_isForbidden_11 ?_
      refine rg_goto C (tgt := 16) (by decide) dL_isForbidden_12 ?_
      refine rg_lastore C h dL_isForbidden_16 (fun σ2 h => ?_)
      refine rg_goto C (tgt := 28) (by decide) dL_isForbidden_17 ?_
      refine rg_iconst C ic_0 dL_isForbidden_28 ?_
      exact rw_iret C (Nat.le_of_ble_eq_true rfl) dL_isForbidden_29 (re_i h)
  · have hM := mX9_isForbidden hl (D := D) (cy := cy) hI hf
    refine sw_e h (fun he h => ?_) (fun hne0 h => ?_)
    · subst he
      exact rw_catch C g_X9_isForbidden hc_9 o_0 ml_L_76 hM rfl rfl (by exact Nat.le_of_ble_eq_true rfl) ⟨Nat.le_of_ble_eq_true rfl, Nat.le_of_ble_eq_true rfl, Nat.le_of_ble_eq_true rfl⟩ dL_isForbidden_5 [] ⟨0, 17, 20, 21⟩ [⟨0, 17, 24, 13⟩] rfl (fun z9 hz9 => by cases hz9) (by decide) (by decide) cl_L_21 (by decide +kernel) (by decide) dL_isForbidden_20 ic_1 dL_isForbidden_22 dL_isForbidden_23 (re_i h)
    · skip
      refine sw_e h (fun he h => ?_) (fun hne1 h => ?_)
      · subst he
        exact rw_catch C g_X9_isForbidden hc_9 o_0 ml_L_76 hM rfl rfl (by exact Nat.le_of_ble_eq_true rfl) ⟨Nat.le_of_ble_eq_true rfl, Nat.le_of_ble_eq_true rfl, Nat.le_of_ble_eq_true rfl⟩ dL_isForbidden_5 [⟨0, 17, 20, 21⟩] ⟨0, 17, 24, 13⟩ [] rfl (fun z9 hz9 => by rcases List.mem_singleton.mp hz9 with rfl; exact Or.inr ⟨by decide, _, cl_L_21, by decide⟩) (by decide) (by decide) cl_L_13 (by decide +kernel) (by decide) dL_isForbidden_24 ic_2 dL_isForbidden_26 dL_isForbidden_27 (re_i h)
      · exact no_e h
def wL_step (σ : Mem) : Option (Int32 × Mem) := bx (fX9_step σ) (fun r σ1 => some ((0 : Int32), mst σ1 155 0 r)) (fun e σ1 => if e = "java/util/NoSuchElementException" then some (1, σ1) else none)

set_option maxHeartbeats 4000000 in
set_option maxRecDepth 100000 in
theorem cL_step_c {l : Launch} {D : va_G} {ad : Nat → Nat} {cy : Nat → ClassId} (hl : l.stackTraces = false) (hI : Inj ad) {σ τ : Mem} {r : Int32} (h : wL_step σ = some (r, τ)) : CoW l D ad cy yL_step cL_step 3 (some .int) [(0, 8, 11, 53)] 8 267 1 [.ref (ad 0), .ref (ad 155)] σ (zi r) τ := by
  refine cow_of (av := [.inr 0, .inr 155]) hl hI (by decide +kernel) (Nat.le_of_ble_eq_true rfl) [some (.inr 0), some (.inr 155), none] rfl (fun V C => ?_)
  have C : Rg l D ad cy RL cL_step 3 8 267 1 (tableOf [(0, 8, 11, 53)]) (FW D ad cy (zi r) τ 1) pT V := C
  refine rg_aload_n C dL_step_0 rfl ?_
  refine rg_iconst C ic_0 dL_step_1 ?_
  refine rg_aload_n C dL_step_2 rfl ?_
  refine bx_e h (fun v σ1 hf h => ?_) (fun e9 σ1 hf h => ?_)
  · have hM := mX9_step hl (D := D) (cy := cy) hI hf
    refine rg_callV C g_X9_step hc_9 o_0 ml_L_80 hM rfl rfl (by exact Nat.le_of_ble_eq_true rfl) ⟨Nat.le_of_ble_eq_true rfl, Nat.le_of_ble_eq_true rfl, Nat.le_of_ble_eq_true rfl⟩ dL_step_3 ?_
    have h : lt (mst σ1 155 0 v) (fun σ2 => some ((0 : Int32), σ2)) = some (r, τ) := h
    refine rg_i2l C dL_step_6 ?_
    refine rg_lastore C h dL_step_7 (fun σ2 h => ?_)
    refine rg_goto C (tgt := 14) (by decide) dL_step_8 ?_
    refine rg_iconst C ic_0 dL_step_14 ?_
    exact rw_iret C (Nat.le_of_ble_eq_true rfl) dL_step_15 (re_i h)
  · have hM := mX9_step hl (D := D) (cy := cy) hI hf
    refine sw_e h (fun he h => ?_) (fun hne0 h => ?_)
    · subst he
      exact rw_catchn C g_X9_step hc_9 o_0 ml_L_80 hM rfl rfl (by exact Nat.le_of_ble_eq_true rfl) ⟨Nat.le_of_ble_eq_true rfl, Nat.le_of_ble_eq_true rfl, Nat.le_of_ble_eq_true rfl⟩ dL_step_3 [] ⟨0, 8, 11, 53⟩ [] rfl (fun z9 hz9 => by cases hz9) (by decide) (by decide) cl_L_53 (by decide +kernel) (by decide) dL_step_11 ic_1 dL_step_12 dL_step_13 (re_i h)
    · exact no_e h
def wL_run (σ : Mem) (a1 : Int32) : Option (Int32 × Mem) := bx (fX9_run σ a1) (fun r σ1 => some ((0 : Int32), mst σ1 155 0 r)) (fun e σ1 => if e = "java/lang/IllegalArgumentException" then some (1, σ1) else none)

set_option maxHeartbeats 4000000 in
set_option maxRecDepth 100000 in
theorem cL_run_c {l : Launch} {D : va_G} {ad : Nat → Nat} {cy : Nat → ClassId} (hl : l.stackTraces = false) (hI : Inj ad) {σ τ : Mem} {a1 : Int32} {r : Int32} (h : wL_run σ a1 = some (r, τ)) : CoW l D ad cy yL_run cL_run 4 (some .int) [(0, 9, 12, 13)] 8 269 1 [.ref (ad 0), .int a1, .ref (ad 155)] σ (zi r) τ := by
  refine cow_of (av := [.inr 0, .inl a1, .inr 155]) hl hI (by decide +kernel) (Nat.le_of_ble_eq_true rfl) [some (.inr 0), some (.inl a1), some (.inr 155), none] rfl (fun V C => ?_)
  have C : Rg l D ad cy RL cL_run 4 8 269 1 (tableOf [(0, 9, 12, 13)]) (FW D ad cy (zi r) τ 1) pT V := C
  refine rg_aload_n C dL_run_0 rfl ?_
  refine rg_iconst C ic_0 dL_run_1 ?_
  refine rg_aload_n C dL_run_2 rfl ?_
  refine rg_iload_n C dL_run_3 rfl ?_
  refine bx_e h (fun v σ1 hf h => ?_) (fun e9 σ1 hf h => ?_)
  · have hM := mX9_run hl (D := D) (cy := cy) hI hf
    refine rg_callV C g_X9_run hc_9 o_0 ml_L_83 hM rfl rfl (by exact Nat.le_of_ble_eq_true rfl) ⟨Nat.le_of_ble_eq_true rfl, Nat.le_of_ble_eq_true rfl, Nat.le_of_ble_eq_true rfl⟩ dL_run_4 ?_
    have h : lt (mst σ1 155 0 v) (fun σ2 => some ((0 : Int32), σ2)) = some (r, τ) := h
    refine rg_i2l C dL_run_7 ?_
    refine rg_lastore C h dL_run_8 (fun σ2 h => ?_)
    refine rg_goto C (tgt := 15) (by decide) dL_run_9 ?_
    refine rg_iconst C ic_0 dL_run_15 ?_
    exact rw_iret C (Nat.le_of_ble_eq_true rfl) dL_run_16 (re_i h)
  · have hM := mX9_run hl (D := D) (cy := cy) hI hf
    refine sw_e h (fun he h => ?_) (fun hne0 h => ?_)
    · subst he
      exact rw_catchn C g_X9_run hc_9 o_0 ml_L_83 hM rfl rfl (by exact Nat.le_of_ble_eq_true rfl) ⟨Nat.le_of_ble_eq_true rfl, Nat.le_of_ble_eq_true rfl, Nat.le_of_ble_eq_true rfl⟩ dL_run_4 [] ⟨0, 9, 12, 13⟩ [] rfl (fun z9 hz9 => by cases hz9) (by decide) (by decide) cl_L_13 (by decide +kernel) (by decide) dL_run_12 ic_1 dL_run_13 dL_run_14 (re_i h)
    · exact no_e h
def wL_search (σ : Mem) (a1 : Int32) : Option (Int32 × Mem) := bx (fX9_search σ a1) (fun r σ1 => some ((0 : Int32), mst σ1 155 0 r)) (fun e σ1 => if e = "java/lang/IllegalArgumentException" then some (1, σ1) else none)

set_option maxHeartbeats 4000000 in
set_option maxRecDepth 100000 in
theorem cL_search_c {l : Launch} {D : va_G} {ad : Nat → Nat} {cy : Nat → ClassId} (hl : l.stackTraces = false) (hI : Inj ad) {σ τ : Mem} {a1 : Int32} {r : Int32} (h : wL_search σ a1 = some (r, τ)) : CoW l D ad cy yL_search cL_search 4 (some .int) [(0, 9, 12, 13)] 7 121 1 [.ref (ad 0), .int a1, .ref (ad 155)] σ (zi r) τ := by
  refine cow_of (av := [.inr 0, .inl a1, .inr 155]) hl hI (by decide +kernel) (Nat.le_of_ble_eq_true rfl) [some (.inr 0), some (.inl a1), some (.inr 155), none] rfl (fun V C => ?_)
  have C : Rg l D ad cy RL cL_search 4 7 121 1 (tableOf [(0, 9, 12, 13)]) (FW D ad cy (zi r) τ 1) pT V := C
  refine rg_aload_n C dL_search_0 rfl ?_
  refine rg_iconst C ic_0 dL_search_1 ?_
  refine rg_aload_n C dL_search_2 rfl ?_
  refine rg_iload_n C dL_search_3 rfl ?_
  refine bx_e h (fun v σ1 hf h => ?_) (fun e9 σ1 hf h => ?_)
  · have hM := mX9_search hl (D := D) (cy := cy) hI hf
    refine rg_callV C g_X9_search hc_9 o_0 ml_L_86 hM rfl rfl (by exact Nat.le_of_ble_eq_true rfl) ⟨Nat.le_of_ble_eq_true rfl, Nat.le_of_ble_eq_true rfl, Nat.le_of_ble_eq_true rfl⟩ dL_search_4 ?_
    have h : lt (mst σ1 155 0 v) (fun σ2 => some ((0 : Int32), σ2)) = some (r, τ) := h
    refine rg_i2l C dL_search_7 ?_
    refine rg_lastore C h dL_search_8 (fun σ2 h => ?_)
    refine rg_goto C (tgt := 15) (by decide) dL_search_9 ?_
    refine rg_iconst C ic_0 dL_search_15 ?_
    exact rw_iret C (Nat.le_of_ble_eq_true rfl) dL_search_16 (re_i h)
  · have hM := mX9_search hl (D := D) (cy := cy) hI hf
    refine sw_e h (fun he h => ?_) (fun hne0 h => ?_)
    · subst he
      exact rw_catchn C g_X9_search hc_9 o_0 ml_L_86 hM rfl rfl (by exact Nat.le_of_ble_eq_true rfl) ⟨Nat.le_of_ble_eq_true rfl, Nat.le_of_ble_eq_true rfl, Nat.le_of_ble_eq_true rfl⟩ dL_search_4 [] ⟨0, 9, 12, 13⟩ [] rfl (fun z9 hz9 => by cases hz9) (by decide) (by decide) cl_L_13 (by decide +kernel) (by decide) dL_search_12 ic_1 dL_search_13 dL_search_14 (re_i h)
    · exact no_e h
def wL_log (σ : Mem) (a1 a2 : Int32) : Option (Int32 × Mem) := bx (fX9_log σ a1 a2) (fun r σ1 => some ((0 : Int32), mst σ1 155 0 r)) (fun e σ1 => if e = "java/lang/IndexOutOfBoundsException" then some (1, σ1) else if e = "java/lang/IllegalArgumentException" then some (2, σ1) else none)

set_option maxHeartbeats 4000000 in
set_option maxRecDepth 100000 in
theorem cL_log_c {l : Launch} {D : va_G} {ad : Nat → Nat} {cy : Nat → ClassId} (hl : l.stackTraces = false) (hI : Inj ad) {σ τ : Mem} {a1 a2 : Int32} {r : Int32} (h : wL_log σ a1 a2 = some (r, τ)) : CoW l D ad cy yL_log cL_log 5 (some .int) [(0, 10, 13, 21), (0, 10, 17, 13)] 8 144 1 [.ref (ad 0), .int a1, .int a2, .ref (ad 155)] σ (zi r) τ := by
  refine cow_of (av := [.inr 0, .inl a1, .inl a2, .inr 155]) hl hI (by decide +kernel) (Nat.le_of_ble_eq_true rfl) [some (.inr 0), some (.inl a1), some (.inl a2), some (.inr 155), none] rfl (fun V C => ?_)
  have C : Rg l D ad cy RL cL_log 5 8 144 1 (tableOf [(0, 10, 13, 21), (0, 10, 17, 13)]) (FW D ad cy (zi r) τ 1) pT V := C
  refine rg_aload_n C dL_log_0 rfl ?_
  refine rg_iconst C ic_0 dL_log_1 ?_
  refine rg_aload_n C dL_log_2 rfl ?_
  refine rg_iload_n C dL_log_3 rfl ?_
  refine rg_iload_n C dL_log_4 rfl ?_
  refine bx_e h (fun v σ1 hf h => ?_) (fun e9 σ1 hf h => ?_)
  · have hM := mX9_log hl (D := D) (cy := cy) hI hf
    refine rg_callV C g_X9_log hc_9 o_0 ml_L_89 hM rfl rfl (by exact Nat.le_of_ble_eq_true rfl) ⟨Nat.le_of_ble_eq_true rfl, Nat.le_of_ble_eq_true rfl, Nat.le_of_ble_eq_true rfl⟩ dL_log_5 ?_
    have h : lt (mst σ1 155 0 v) (fun σ2 => some ((0 : Int32), σ2)) = some (r, τ) := h
    refine rg_i2l C dL_log_8 ?_
    refine rg_lastore C h dL_log_9 (fun σ2 h => ?_)
    refine rg_goto C (tgt := 21) (by decide) dL_log_10 ?_
    refine rg_iconst C ic_0 dL_log_21 ?_
    exact rw_iret C (Nat.le_of_ble_eq_true rfl) dL_log_22 (re_i h)
  · have hM := mX9_log hl (D := D) (cy := cy) hI hf
    refine sw_e h (fun he h => ?_) (fun hne0 h => ?_)
    · subst he
      exact rw_catch C g_X9_log hc_9 o_0 ml_L_89 hM rfl rfl (by exact Nat.le_of_ble_eq_true rfl) ⟨Nat.le_of_ble_eq_true rfl, Nat.le_of_ble_eq_true rfl, Nat.le_of_ble_eq_true rfl⟩ dL_log_5 [] ⟨0, 10, 13, 21⟩ [⟨0, 10, 17, 13⟩] rfl (fun z9 hz9 => by cases hz9) (by decide) (by decide) cl_L_21 (by decide +kernel) (by decide) dL_log_13 ic_1 dL_log_15 dL_log_16 (re_i h)
    · skip
      refine sw_e h (fun he h => ?_) (fun hne1 h => ?_)
      · subst he
        exact rw_catch C g_X9_log hc_9 o_0 ml_L_89 hM rfl rfl (by exact Nat.le_of_ble_eq_true rfl) ⟨Nat.le_of_ble_eq_true rfl, Nat.le_of_ble_eq_true rfl, Nat.le_of_ble_eq_true rfl⟩ dL_log_5 [⟨0, 10, 13, 21⟩] ⟨0, 10, 17, 13⟩ [] rfl (fun z9 hz9 => by rcases List.mem_singleton.mp hz9 with rfl; exact Or.inr ⟨by decide, _, cl_L_21, by decide⟩) (by decide) (by decide) cl_L_13 (by decide +kernel) (by decide) dL_log_17 ic_2 dL_log_19 dL_log_20 (re_i h)
      · exact no_e h
def wL_improvingShare (σ : Mem) : Option (Int32 × Mem) := bx (fX9_improvingShare σ) (fun r σ1 => some ((0 : Int32), mst (mst σ1 156 0 (lo32 r)) 156 1 (hi32 r))) (fun e σ1 => if e = "java/lang/ArithmeticException" then some (1, σ1) else none)

set_option maxHeartbeats 4000000 in
set_option maxRecDepth 100000 in
theorem cL_improvingShare_c {l : Launch} {D : va_G} {ad : Nat → Nat} {cy : Nat → ClassId} (hl : l.stackTraces = false) (hI : Inj ad) {σ τ : Mem} {r : Int32} (h : wL_improvingShare σ = some (r, τ)) : CoW l D ad cy yL_improvingShare cL_improvingShare 3 (some .int) [(0, 7, 10, 96)] 7 165 1 [.ref (ad 0), .ref (ad 156)] σ (zi r) τ := by
  refine cow_of (av := [.inr 0, .inr 156]) hl hI (by decide +kernel) (Nat.le_of_ble_eq_true rfl) [some (.inr 0), some (.inr 156), none] rfl (fun V C => ?_)
  have C : Rg l D ad cy RL cL_improvingShare 3 7 165 1 (tableOf [(0, 7, 10, 96)]) (FW D ad cy (zi r) τ 1) pT V := C
  refine rg_aload_n C dL_improvingShare_0 rfl ?_
  refine rg_iconst C ic_0 dL_improvingShare_1 ?_
  refine rg_aload_n C dL_improvingShare_2 rfl ?_
  refine bx_e h (fun v σ1 hf h => ?_) (fun e9 σ1 hf h => ?_)
  · have hM := mX9_improvingShare hl (D := D) (cy := cy) hI hf
    refine rg_callV C g_X9_improvingShare hc_9 o_0 ml_L_92 hM rfl rfl (by exact Nat.le_of_ble_eq_true rfl) ⟨Nat.le_of_ble_eq_true rfl, Nat.le_of_ble_eq_true rfl, Nat.le_of_ble_eq_true rfl⟩ dL_improvingShare_3 ?_
    have h : lt (mst (mst σ1 156 0 (lo32 v)) 156 1 (hi32 v)) (fun σ2 => some ((0 : Int32), σ2)) = some (r, τ) := h
    refine rg_dastore C h dL_improvingShare_6 (fun σ2 h => ?_)
    refine rg_goto C (tgt := 13) (by decide) dL_improvingShare_7 ?_
    refine rg_iconst C ic_0 dL_improvingShare_13 ?_
    exact rw_iret C (Nat.le_of_ble_eq_true rfl) dL_improvingShare_14 (re_i h)
  · have hM := mX9_improvingShare hl (D := D) (cy := cy) hI hf
    refine sw_e h (fun he h => ?_) (fun hne0 h => ?_)
    · subst he
      exact rw_catchn C g_X9_improvingShare hc_9 o_0 ml_L_92 hM rfl rfl (by exact Nat.le_of_ble_eq_true rfl) ⟨Nat.le_of_ble_eq_true rfl, Nat.le_of_ble_eq_true rfl, Nat.le_of_ble_eq_true rfl⟩ dL_improvingShare_3 [] ⟨0, 7, 10, 96⟩ [] rfl (fun z9 hz9 => by cases hz9) (by decide) (by decide) cl_L_96 (by decide +kernel) (by decide) dL_improvingShare_10 ic_1 dL_improvingShare_11 dL_improvingShare_12 (re_i h)
    · exact no_e h
def wL_optimum (σ : Mem) : Option (Int32 × Mem) := bx (fX9_optimum σ) (fun r σ1 => some ((0 : Int32), mst σ1 155 0 r)) (fun e σ1 => if e = "java/lang/IllegalStateException" then some (1, σ1) else none)

set_option maxHeartbeats 4000000 in
set_option maxRecDepth 100000 in
theorem cL_optimum_c {l : Launch} {D : va_G} {ad : Nat → Nat} {cy : Nat → ClassId} (hl : l.stackTraces = false) (hI : Inj ad) {σ τ : Mem} {r : Int32} (h : wL_optimum σ = some (r, τ)) : CoW l D ad cy yL_optimum cL_optimum 3 (some .int) [(0, 8, 11, 15)] 8 237 1 [.ref (ad 0), .ref (ad 155)] σ (zi r) τ := by
  refine cow_of (av := [.inr 0, .inr 155]) hl hI (by decide +kernel) (Nat.le_of_ble_eq_true rfl) [some (.inr 0), some (.inr 155), none] rfl (fun V C => ?_)
  have C : Rg l D ad cy RL cL_optimum 3 8 237 1 (tableOf [(0, 8, 11, 15)]) (FW D ad cy (zi r) τ 1) pT V := C
  refine rg_aload_n C dL_optimum_0 rfl ?_
  refine rg_iconst C ic_0 dL_optimum_1 ?_
  refine rg_aload_n C dL_optimum_2 rfl ?_
  refine bx_e h (fun v σ1 hf h => ?_) (fun e9 σ1 hf h => ?_)
  · have hM := mX9_optimum hl (D := D) (cy := cy) hI hf
    refine rg_callV C g_X9_optimum hc_9 o_0 ml_L_98 hM rfl rfl (by exact Nat.le_of_ble_eq_true rfl) ⟨Nat.le_of_ble_eq_true rfl, Nat.le_of_ble_eq_true rfl, Nat.le_of_ble_eq_true rfl⟩ dL_optimum_3 ?_
    have h : lt (mst σ1 155 0 v) (fun σ2 => some ((0 : Int32), σ2)) = some (r, τ) := h
    refine rg_i2l C dL_optimum_6 ?_
    refine rg_lastore C h dL_optimum_7 (fun σ2 h => ?_)
    refine rg_goto C (tgt := 14) (by decide) dL_optimum_8 ?_
    refine rg_iconst C ic_0 dL_optimum_14 ?_
    exact rw_iret C (Nat.le_of_ble_eq_true rfl) dL_optimum_15 (re_i h)
  · have hM := mX9_optimum hl (D := D) (cy := cy) hI hf
    refine sw_e h (fun he h => ?_) (fun hne0 h => ?_)
    · subst he
      exact rw_catchn C g_X9_optimum hc_9 o_0 ml_L_98 hM rfl rfl (by exact Nat.le_of_ble_eq_true rfl) ⟨Nat.le_of_ble_eq_true rfl, Nat.le_of_ble_eq_true rfl, Nat.le_of_ble_eq_true rfl⟩ dL_optimum_3 [] ⟨0, 8, 11, 15⟩ [] rfl (fun z9 hz9 => by cases hz9) (by decide) (by decide) cl_L_15 (by decide +kernel) (by decide) dL_optimum_11 ic_1 dL_optimum_12 dL_optimum_13 (re_i h)
    · exact no_e h
def wL_optima (σ : Mem) : Option (Int32 × Mem) := bx (fX9_optima σ) (fun r σ1 => some ((0 : Int32), mst σ1 155 0 r)) (fun e σ1 => if e = "java/lang/IllegalStateException" then some (1, σ1) else none)

set_option maxHeartbeats 4000000 in
set_option maxRecDepth 100000 in
theorem cL_optima_c {l : Launch} {D : va_G} {ad : Nat → Nat} {cy : Nat → ClassId} (hl : l.stackTraces = false) (hI : Inj ad) {σ τ : Mem} {r : Int32} (h : wL_optima σ = some (r, τ)) : CoW l D ad cy yL_optima cL_optima 3 (some .int) [(0, 8, 11, 15)] 8 237 1 [.ref (ad 0), .ref (ad 155)] σ (zi r) τ := by
  refine cow_of (av := [.inr 0, .inr 155]) hl hI (by decide +kernel) (Nat.le_of_ble_eq_true rfl) [some (.inr 0), some (.inr 155), none] rfl (fun V C => ?_)
  have C : Rg l D ad cy RL cL_optima 3 8 237 1 (tableOf [(0, 8, 11, 15)]) (FW D ad cy (zi r) τ 1) pT V := C
  refine rg_aload_n C dL_optima_0 rfl ?_
  refine rg_iconst C ic_0 dL_optima_1 ?_
  refine rg_aload_n C dL_optima_2 rfl ?_
  refine bx_e h (fun v σ1 hf h => ?_) (fun e9 σ1 hf h => ?_)
  · have hM := mX9_optima hl (D := D) (cy := cy) hI hf
    refine rg_callV C g_X9_optima hc_9 o_0 ml_L_101 hM rfl rfl (by exact Nat.le_of_ble_eq_true rfl) ⟨Nat.le_of_ble_eq_true rfl, Nat.le_of_ble_eq_true rfl, Nat.le_of_ble_eq_true rfl⟩ dL_optima_3 ?_
    have h : lt (mst σ1 155 0 v) (fun σ2 => some ((0 : Int32), σ2)) = some (r, τ) := h
    refine rg_i2l C dL_optima_6 ?_
    refine rg_lastore C h dL_optima_7 (fun σ2 h => ?_)
    refine rg_goto C (tgt := 14) (by decide) dL_optima_8 ?_
    refine rg_iconst C ic_0 dL_optima_14 ?_
    exact rw_iret C (Nat.le_of_ble_eq_true rfl) dL_optima_15 (re_i h)
  · have hM := mX9_optima hl (D := D) (cy := cy) hI hf
    refine sw_e h (fun he h => ?_) (fun hne0 h => ?_)
    · subst he
      exact rw_catchn C g_X9_optima hc_9 o_0 ml_L_101 hM rfl rfl (by exact Nat.le_of_ble_eq_true rfl) ⟨Nat.le_of_ble_eq_true rfl, Nat.le_of_ble_eq_true rfl, Nat.le_of_ble_eq_true rfl⟩ dL_optima_3 [] ⟨0, 8, 11, 15⟩ [] rfl (fun z9 hz9 => by cases hz9) (by decide) (by decide) cl_L_15 (by decide +kernel) (by decide) dL_optima_11 ic_1 dL_optima_12 dL_optima_13 (re_i h)
    · exact no_e h
def wL_optimalValue (σ : Mem) (a1 : Int32) : Option (Int32 × Mem) := bx (fX9_optimalValue σ a1) (fun r σ1 => some ((0 : Int32), mst σ1 155 0 r)) (fun e σ1 => if e = "java/lang/IndexOutOfBoundsException" then some (1, σ1) else if e = "java/lang/IllegalStateException" then some (2, σ1) else none)

set_option maxHeartbeats 4000000 in
set_option maxRecDepth 100000 in
theorem cL_optimalValue_c {l : Launch} {D : va_G} {ad : Nat → Nat} {cy : Nat → ClassId} (hl : l.stackTraces = false) (hI : Inj ad) {σ τ : Mem} {a1 : Int32} {r : Int32} (h : wL_optimalValue σ a1 = some (r, τ)) : CoW l D ad cy yL_optimalValue cL_optimalValue 4 (some .int) [(0, 9, 12, 21), (0, 9, 15, 15)] 8 238 2 [.ref (ad 0), .int a1, .ref (ad 155)] σ (zi r) τ := by
  refine cow_of (av := [.inr 0, .inl a1, .inr 155]) hl hI (by decide +kernel) (Nat.le_of_ble_eq_true rfl) [some (.inr 0), some (.inl a1), some (.inr 155), none] rfl (fun V C => ?_)
  have C : Rg l D ad cy RL cL_optimalValue 4 8 238 2 (tableOf [(0, 9, 12, 21), (0, 9, 15, 15)]) (FW D ad cy (zi r) τ 2) pT V := C
  refine rg_aload_n C dL_optimalValue_0 rfl ?_
  refine rg_iconst C ic_0 dL_optimalValue_1 ?_
  refine rg_aload_n C dL_optimalValue_2 rfl ?_
  refine rg_iload_n C dL_optimalValue_3 rfl ?_
  refine bx_e h (fun v σ1 hf h => ?_) (fun e9 σ1 hf h => ?_)
  · have hM := mX9_optimalValue hl (D := D) (cy := cy) hI hf
    refine rg_callV C g_X9_optimalValue hc_9 o_0 ml_L_104 hM rfl rfl (by exact Nat.le_of_ble_eq_true rfl) ⟨Nat.le_of_ble_eq_true rfl, Nat.le_of_ble_eq_true rfl, Nat.le_of_ble_eq_true rfl⟩ dL_optimalValue_4 ?_
    have h : lt (mst σ1 155 0 v) (fun σ2 => some ((0 : Int32), σ2)) = some (r, τ) := h
    refine rg_i2l C dL_optimalValue_7 ?_
    refine rg_lastore C h dL_optimalValue_8 (fun σ2 h => ?_)
    refine rg_goto C (tgt := 18) (by decide) dL_optimalValue_9 ?_
    refine rg_iconst C ic_0 dL_optimalValue_18 ?_
    exact rw_iret C (Nat.le_of_ble_eq_true rfl) dL_optimalValue_19 (re_i h)
  · have hM := mX9_optimalValue hl (D := D) (cy := cy) hI hf
    refine sw_e h (fun he h => ?_) (fun hne0 h => ?_)
    · subst he
      exact rw_catchn C g_X9_optimalValue hc_9 o_0 ml_L_104 hM rfl rfl (by exact Nat.le_of_ble_eq_true rfl) ⟨Nat.le_of_ble_eq_true rfl, Nat.le_of_ble_eq_true rfl, Nat.le_of_ble_eq_true rfl⟩ dL_optimalValue_4 [] ⟨0, 9, 12, 21⟩ [⟨0, 9, 15, 15⟩] rfl (fun z9 hz9 => by cases hz9) (by decide) (by decide) cl_L_21 (by decide +kernel) (by decide) dL_optimalValue_12 ic_1 dL_optimalValue_13 dL_optimalValue_14 (re_i h)
    · skip
      refine sw_e h (fun he h => ?_) (fun hne1 h => ?_)
      · subst he
        exact rw_catchn C g_X9_optimalValue hc_9 o_0 ml_L_104 hM rfl rfl (by exact Nat.le_of_ble_eq_true rfl) ⟨Nat.le_of_ble_eq_true rfl, Nat.le_of_ble_eq_true rfl, Nat.le_of_ble_eq_true rfl⟩ dL_optimalValue_4 [⟨0, 9, 12, 21⟩] ⟨0, 9, 15, 15⟩ [] rfl (fun z9 hz9 => by rcases List.mem_singleton.mp hz9 with rfl; exact Or.inr ⟨by decide, _, cl_L_21, by decide⟩) (by decide) (by decide) cl_L_15 (by decide +kernel) (by decide) dL_optimalValue_15 ic_2 dL_optimalValue_16 dL_optimalValue_17 (re_i h)
      · exact no_e h
def wL_worst (σ : Mem) : Option (Int32 × Mem) := bx (fX9_worst σ) (fun r σ1 => some ((0 : Int32), mst σ1 155 0 r)) (fun e σ1 => if e = "java/lang/IllegalStateException" then some (1, σ1) else none)

set_option maxHeartbeats 4000000 in
set_option maxRecDepth 100000 in
theorem cL_worst_c {l : Launch} {D : va_G} {ad : Nat → Nat} {cy : Nat → ClassId} (hl : l.stackTraces = false) (hI : Inj ad) {σ τ : Mem} {r : Int32} (h : wL_worst σ = some (r, τ)) : CoW l D ad cy yL_worst cL_worst 3 (some .int) [(0, 8, 11, 15)] 8 237 1 [.ref (ad 0), .ref (ad 155)] σ (zi r) τ := by
  refine cow_of (av := [.inr 0, .inr 155]) hl hI (by decide +kernel) (Nat.le_of_ble_eq_true rfl) [some (.inr 0), some (.inr 155), none] rfl (fun V C => ?_)
  have C : Rg l D ad cy RL cL_worst 3 8 237 1 (tableOf [(0, 8, 11, 15)]) (FW D ad cy (zi r) τ 1) pT V := C
  refine rg_aload_n C dL_worst_0 rfl ?_
  refine rg_iconst C ic_0 dL_worst_1 ?_
  refine rg_aload_n C dL_worst_2 rfl ?_
  refine bx_e h (fun v σ1 hf h => ?_) (fun e9 σ1 hf h => ?_)
  · have hM := mX9_worst hl (D := D) (cy := cy) hI hf
    refine rg_callV C g_X9_worst hc_9 o_0 ml_L_107 hM rfl rfl (by exact Nat.le_of_ble_eq_true rfl) ⟨Nat.le_of_ble_eq_true rfl, Nat.le_of_ble_eq_true rfl, Nat.le_of_ble_eq_true rfl⟩ dL_worst_3 ?_
    have h : lt (mst σ1 155 0 v) (fun σ2 => some ((0 : Int32), σ2)) = some (r, τ) := h
    refine rg_i2l C dL_worst_6 ?_
    refine rg_lastore C h dL_worst_7 (fun σ2 h => ?_)
    refine rg_goto C (tgt := 14) (by decide) dL_worst_8 ?_
    refine rg_iconst C ic_0 dL_worst_14 ?_
    exact rw_iret C (Nat.le_of_ble_eq_true rfl) dL_worst_15 (re_i h)
  · have hM := mX9_worst hl (D := D) (cy := cy) hI hf
    refine sw_e h (fun he h => ?_) (fun hne0 h => ?_)
    · subst he
      exact rw_catchn C g_X9_worst hc_9 o_0 ml_L_107 hM rfl rfl (by exact Nat.le_of_ble_eq_true rfl) ⟨Nat.le_of_ble_eq_true rfl, Nat.le_of_ble_eq_true rfl, Nat.le_of_ble_eq_true rfl⟩ dL_worst_3 [] ⟨0, 8, 11, 15⟩ [] rfl (fun z9 hz9 => by cases hz9) (by decide) (by decide) cl_L_15 (by decide +kernel) (by decide) dL_worst_11 ic_1 dL_worst_12 dL_worst_13 (re_i h)
    · exact no_e h
def wL_unavoidable (σ : Mem) : Option (Int32 × Mem) := bx (fX9_unavoidable σ) (fun r σ1 => some ((0 : Int32), mst σ1 155 0 r)) (fun e σ1 => if e = "java/lang/IllegalStateException" then some (1, σ1) else none)

set_option maxHeartbeats 4000000 in
set_option maxRecDepth 100000 in
theorem cL_unavoidable_c {l : Launch} {D : va_G} {ad : Nat → Nat} {cy : Nat → ClassId} (hl : l.stackTraces = false) (hI : Inj ad) {σ τ : Mem} {r : Int32} (h : wL_unavoidable σ = some (r, τ)) : CoW l D ad cy yL_unavoidable cL_unavoidable 3 (some .int) [(0, 8, 11, 15)] 8 237 1 [.ref (ad 0), .ref (ad 155)] σ (zi r) τ := by
  refine cow_of (av := [.inr 0, .inr 155]) hl hI (by decide +kernel) (Nat.le_of_ble_eq_true rfl) [some (.inr 0), some (.inr 155), none] rfl (fun V C => ?_)
  have C : Rg l D ad cy RL cL_unavoidable 3 8 237 1 (tableOf [(0, 8, 11, 15)]) (FW D ad cy (zi r) τ 1) pT V := C
  refine rg_aload_n C dL_unavoidable_0 rfl ?_
  refine rg_iconst C ic_0 dL_unavoidable_1 ?_
  refine rg_aload_n C dL_unavoidable_2 rfl ?_
  refine bx_e h (fun v σ1 hf h => ?_) (fun e9 σ1 hf h => ?_)
  · have hM := mX9_unavoidable hl (D := D) (cy := cy) hI hf
    refine rg_callV C g_X9_unavoidable hc_9 o_0 ml_L_110 hM rfl rfl (by exact Nat.le_of_ble_eq_true rfl) ⟨Nat.le_of_ble_eq_true rfl, Nat.le_of_ble_eq_true rfl, Nat.le_of_ble_eq_true rfl⟩ dL_unavoidable_3 ?_
    have h : lt (mst σ1 155 0 v) (fun σ2 => some ((0 : Int32), σ2)) = some (r, τ) := h
    refine rg_i2l C dL_unavoidable_6 ?_
    refine rg_lastore C h dL_unavoidable_7 (fun σ2 h => ?_)
    refine rg_goto C (tgt := 14) (by decide) dL_unavoidable_8 ?_
    refine rg_iconst C ic_0 dL_unavoidable_14 ?_
    exact rw_iret C (Nat.le_of_ble_eq_true rfl) dL_unavoidable_15 (re_i h)
  · have hM := mX9_unavoidable hl (D := D) (cy := cy) hI hf
    refine sw_e h (fun he h => ?_) (fun hne0 h => ?_)
    · subst he
      exact rw_catchn C g_X9_unavoidable hc_9 o_0 ml_L_110 hM rfl rfl (by exact Nat.le_of_ble_eq_true rfl) ⟨Nat.le_of_ble_eq_true rfl, Nat.le_of_ble_eq_true rfl, Nat.le_of_ble_eq_true rfl⟩ dL_unavoidable_3 [] ⟨0, 8, 11, 15⟩ [] rfl (fun z9 hz9 => by cases hz9) (by decide) (by decide) cl_L_15 (by decide +kernel) (by decide) dL_unavoidable_11 ic_1 dL_unavoidable_12 dL_unavoidable_13 (re_i h)
    · exact no_e h
def wL_append (σ : Mem) (a1 : Int32) : Option (Int32 × Mem) := bx (fX9_append σ a1) (fun r σ1 => some ((0 : Int32), mst σ1 155 0 r)) (fun e σ1 => if e = "java/lang/IllegalArgumentException" then some (1, σ1) else if e = "java/lang/IllegalStateException" then some (2, σ1) else none)

set_option maxHeartbeats 4000000 in
set_option maxRecDepth 100000 in
theorem cL_append_c {l : Launch} {D : va_G} {ad : Nat → Nat} {cy : Nat → ClassId} (hl : l.stackTraces = false) (hI : Inj ad) {σ τ : Mem} {a1 : Int32} {r : Int32} (h : wL_append σ a1 = some (r, τ)) : CoW l D ad cy yL_append cL_append 4 (some .int) [(0, 9, 12, 13), (0, 9, 15, 15)] 8 143 2 [.ref (ad 0), .int a1, .ref (ad 155)] σ (zi r) τ := by
  refine cow_of (av := [.inr 0, .inl a1, .inr 155]) hl hI (by decide +kernel) (Nat.le_of_ble_eq_true rfl) [some (.inr 0), some (.inl a1), some (.inr 155), none] rfl (fun V C => ?_)
  have C : Rg l D ad cy RL cL_append 4 8 143 2 (tableOf [(0, 9, 12, 13), (0, 9, 15, 15)]) (FW D ad cy (zi r) τ 2) pT V := C
  refine rg_aload_n C dL_append_0 rfl ?_
  refine rg_iconst C ic_0 dL_append_1 ?_
  refine rg_aload_n C dL_append_2 rfl ?_
  refine rg_iload_n C dL_append_3 rfl ?_
  refine bx_e h (fun v σ1 hf h => ?_) (fun e9 σ1 hf h => ?_)
  · have hM := mX9_append hl (D := D) (cy := cy) hI hf
    refine rg_callV C g_X9_append hc_9 o_0 ml_L_113 hM rfl rfl (by exact Nat.le_of_ble_eq_true rfl) ⟨Nat.le_of_ble_eq_true rfl, Nat.le_of_ble_eq_true rfl, Nat.le_of_ble_eq_true rfl⟩ dL_append_4 ?_
    have h : lt (mst σ1 155 0 v) (fun σ2 => some ((0 : Int32), σ2)) = some (r, τ) := h
    refine rg_i2l C dL_append_7 ?_
    refine rg_lastore C h dL_append_8 (fun σ2 h => ?_)
    refine rg_goto C (tgt := 18) (by decide) dL_append_9 ?_
    refine rg_iconst C ic_0 dL_append_18 ?_
    exact rw_iret C (Nat.le_of_ble_eq_true rfl) dL_append_19 (re_i h)
  · have hM := mX9_append hl (D := D) (cy := cy) hI hf
    refine sw_e h (fun he h => ?_) (fun hne0 h => ?_)
    · subst he
      exact rw_catchn C g_X9_append hc_9 o_0 ml_L_113 hM rfl rfl (by exact Nat.le_of_ble_eq_true rfl) ⟨Nat.le_of_ble_eq_true rfl, Nat.le_of_ble_eq_true rfl, Nat.le_of_ble_eq_true rfl⟩ dL_append_4 [] ⟨0, 9, 12, 13⟩ [⟨0, 9, 15, 15⟩] rfl (fun z9 hz9 => by cases hz9) (by decide) (by decide) cl_L_13 (by decide +kernel) (by decide) dL_append_12 ic_1 dL_append_13 dL_append_14 (re_i h)
    · skip
      refine sw_e h (fun he h => ?_) (fun hne1 h => ?_)
      · subst he
        exact rw_catchn C g_X9_append hc_9 o_0 ml_L_113 hM rfl rfl (by exact Nat.le_of_ble_eq_true rfl) ⟨Nat.le_of_ble_eq_true rfl, Nat.le_of_ble_eq_true rfl, Nat.le_of_ble_eq_true rfl⟩ dL_append_4 [⟨0, 9, 12, 13⟩] ⟨0, 9, 15, 15⟩ [] rfl (fun z9 hz9 => by rcases List.mem_singleton.mp hz9 with rfl; exact Or.inr ⟨by decide, _, cl_L_13, by decide⟩) (by decide) (by decide) cl_L_15 (by decide +kernel) (by decide) dL_append_15 ic_2 dL_append_16 dL_append_17 (re_i h)
      · exact no_e h
def wL_read (σ : Mem) : Option (Int32 × Mem) := bx (fX9_read σ) (fun r σ1 => some ((0 : Int32), mst σ1 155 0 r)) (fun e σ1 => if e = "java/lang/IllegalArgumentException" then some (1, σ1) else if e = "java/lang/IllegalStateException" then some (2, σ1) else none)

set_option maxHeartbeats 4000000 in
set_option maxRecDepth 100000 in
theorem cL_read_c {l : Launch} {D : va_G} {ad : Nat → Nat} {cy : Nat → ClassId} (hl : l.stackTraces = false) (hI : Inj ad) {σ τ : Mem} {r : Int32} (h : wL_read σ = some (r, τ)) : CoW l D ad cy yL_read cL_read 3 (some .int) [(0, 8, 11, 13), (0, 8, 14, 15)] 8 254 1 [.ref (ad 0), .ref (ad 155)] σ (zi r) τ := by
  refine cow_of (av := [.inr 0, .inr 155]) hl hI (by decide +kernel) (Nat.le_of_ble_eq_true rfl) [some (.inr 0), some (.inr 155), none] rfl (fun V C => ?_)
  have C : Rg l D ad cy RL cL_read 3 8 254 1 (tableOf [(0, 8, 11, 13), (0, 8, 14, 15)]) (FW D ad cy (zi r) τ 1) pT V := C
  refine rg_aload_n C dL_read_0 rfl ?_
  refine rg_iconst C ic_0 dL_read_1 ?_
  refine rg_aload_n C dL_read_2 rfl ?_
  refine bx_e h (fun v σ1 hf h => ?_) (fun e9 σ1 hf h => ?_)
  · have hM := mX9_read hl (D := D) (cy := cy) hI hf
    refine rg_callV C g_X9_read hc_9 o_0 ml_L_117 hM rfl rfl (by exact Nat.le_of_ble_eq_true rfl) ⟨Nat.le_of_ble_eq_true rfl, Nat.le_of_ble_eq_true rfl, Nat.le_of_ble_eq_true rfl⟩ dL_read_3 ?_
    have h : lt (mst σ1 155 0 v) (fun σ2 => some ((0 : Int32), σ2)) = some (r, τ) := h
    refine rg_i2l C dL_read_6 ?_
    refine rg_lastore C h dL_read_7 (fun σ2 h => ?_)
    refine rg_goto C (tgt := 17) (by decide) dL_read_8 ?_
    refine rg_iconst C ic_0 dL_read_17 ?_
    exact rw_iret C (Nat.le_of_ble_eq_true rfl) dL_read_18 (re_i h)
  · have hM := mX9_read hl (D := D) (cy := cy) hI hf
    refine sw_e h (fun he h => ?_) (fun hne0 h => ?_)
    · subst he
      exact rw_catchn C g_X9_read hc_9 o_0 ml_L_117 hM rfl rfl (by exact Nat.le_of_ble_eq_true rfl) ⟨Nat.le_of_ble_eq_true rfl, Nat.le_of_ble_eq_true rfl, Nat.le_of_ble_eq_true rfl⟩ dL_read_3 [] ⟨0, 8, 11, 13⟩ [⟨0, 8, 14, 15⟩] rfl (fun z9 hz9 => by cases hz9) (by decide) (by decide) cl_L_13 (by decide +kernel) (by decide) dL_read_11 ic_1 dL_read_12 dL_read_13 (re_i h)
    · skip
      refine sw_e h (fun he h => ?_) (fun hne1 h => ?_)
      · subst he
        exact rw_catchn C g_X9_read hc_9 o_0 ml_L_117 hM rfl rfl (by exact Nat.le_of_ble_eq_true rfl) ⟨Nat.le_of_ble_eq_true rfl, Nat.le_of_ble_eq_true rfl, Nat.le_of_ble_eq_true rfl⟩ dL_read_3 [⟨0, 8, 11, 13⟩] ⟨0, 8, 14, 15⟩ [] rfl (fun z9 hz9 => by rcases List.mem_singleton.mp hz9 with rfl; exact Or.inr ⟨by decide, _, cl_L_13, by decide⟩) (by decide) (by decide) cl_L_15 (by decide +kernel) (by decide) dL_read_14 ic_2 dL_read_15 dL_read_16 (re_i h)
      · exact no_e h
def wL_errorPosition (σ : Mem) : Option (Int32 × Mem) := bx (fX9_errorPosition σ) (fun r σ1 => some ((0 : Int32), mst σ1 155 0 r)) (fun e σ1 => if e = "java/util/NoSuchElementException" then some (1, σ1) else none)

set_option maxHeartbeats 4000000 in
set_option maxRecDepth 100000 in
theorem cL_errorPosition_c {l : Launch} {D : va_G} {ad : Nat → Nat} {cy : Nat → ClassId} (hl : l.stackTraces = false) (hI : Inj ad) {σ τ : Mem} {r : Int32} (h : wL_errorPosition σ = some (r, τ)) : CoW l D ad cy yL_errorPosition cL_errorPosition 3 (some .int) [(0, 8, 11, 53)] 7 120 1 [.ref (ad 0), .ref (ad 155)] σ (zi r) τ := by
  refine cow_of (av := [.inr 0, .inr 155]) hl hI (by decide +kernel) (Nat.le_of_ble_eq_true rfl) [some (.inr 0), some (.inr 155), none] rfl (fun V C => ?_)
  have C : Rg l D ad cy RL cL_errorPosition 3 7 120 1 (tableOf [(0, 8, 11, 53)]) (FW D ad cy (zi r) τ 1) pT V := C
  refine rg_aload_n C dL_errorPosition_0 rfl ?_
  refine rg_iconst C ic_0 dL_errorPosition_1 ?_
  refine rg_aload_n C dL_errorPosition_2 rfl ?_
  refine bx_e h (fun v σ1 hf h => ?_) (fun e9 σ1 hf h => ?_)
  · have hM := mX9_errorPosition hl (D := D) (cy := cy) hI hf
    refine rg_callV C g_X9_errorPosition hc_9 o_0 ml_L_120 hM rfl rfl (by exact Nat.le_of_ble_eq_true rfl) ⟨Nat.le_of_ble_eq_true rfl, Nat.le_of_ble_eq_true rfl, Nat.le_of_ble_eq_true rfl⟩ dL_errorPosition_3 ?_
    have h : lt (mst σ1 155 0 v) (fun σ2 => some ((0 : Int32), σ2)) = some (r, τ) := h
    refine rg_i2l C dL_errorPosition_6 ?_
    refine rg_lastore C h dL_errorPosition_7 (fun σ2 h => ?_)
    refine rg_goto C (tgt := 14) (by decide) dL_errorPosition_8 ?_
    refine rg_iconst C ic_0 dL_errorPosition_14 ?_
    exact rw_iret C (Nat.le_of_ble_eq_true rfl) dL_errorPosition_15 (re_i h)
  · have hM := mX9_errorPosition hl (D := D) (cy := cy) hI hf
    refine sw_e h (fun he h => ?_) (fun hne0 h => ?_)
    · subst he
      exact rw_catchn C g_X9_errorPosition hc_9 o_0 ml_L_120 hM rfl rfl (by exact Nat.le_of_ble_eq_true rfl) ⟨Nat.le_of_ble_eq_true rfl, Nat.le_of_ble_eq_true rfl, Nat.le_of_ble_eq_true rfl⟩ dL_errorPosition_3 [] ⟨0, 8, 11, 53⟩ [] rfl (fun z9 hz9 => by cases hz9) (by decide) (by decide) cl_L_53 (by decide +kernel) (by decide) dL_errorPosition_11 ic_1 dL_errorPosition_12 dL_errorPosition_13 (re_i h)
    · exact no_e h
def wL_describe (σ : Mem) (a1 a2 : Int32) : Option (Int32 × Mem) := bx (fX9_describe σ a1 a2) (fun r σ1 => some ((0 : Int32), mst σ1 155 0 r)) (fun e σ1 => if e = "java/lang/IndexOutOfBoundsException" then some (1, σ1) else if e = "java/util/NoSuchElementException" then some (2, σ1) else none)

set_option maxHeartbeats 4000000 in
set_option maxRecDepth 100000 in
theorem cL_describe_c {l : Launch} {D : va_G} {ad : Nat → Nat} {cy : Nat → ClassId} (hl : l.stackTraces = false) (hI : Inj ad) {σ τ : Mem} {a1 a2 : Int32} {r : Int32} (h : wL_describe σ a1 a2 = some (r, τ)) : CoW l D ad cy yL_describe cL_describe 5 (some .int) [(0, 10, 13, 21), (0, 10, 17, 53)] 8 188 2 [.ref (ad 0), .int a1, .int a2, .ref (ad 155)] σ (zi r) τ := by
  refine cow_of (av := [.inr 0, .inl a1, .inl a2, .inr 155]) hl hI (by decide +kernel) (Nat.le_of_ble_eq_true rfl) [some (.inr 0), some (.inl a1), some (.inl a2), some (.inr 155), none] rfl (fun V C => ?_)
  have C : Rg l D ad cy RL cL_describe 5 8 188 2 (tableOf [(0, 10, 13, 21), (0, 10, 17, 53)]) (FW D ad cy (zi r) τ 2) pT V := C
  refine rg_aload_n C dL_describe_0 rfl ?_
  refine rg_iconst C ic_0 dL_describe_1 ?_
  refine rg_aload_n C dL_describe_2 rfl ?_
  refine rg_iload_n C dL_describe_3 rfl ?_
  refine rg_iload_n C dL_describe_4 rfl ?_
  refine bx_e h (fun v σ1 hf h => ?_) (fun e9 σ1 hf h => ?_)
  · have hM := mX9_describe hl (D := D) (cy := cy) hI hf
    refine rg_callV C g_X9_describe hc_9 o_0 ml_L_123 hM rfl rfl (by exact Nat.le_of_ble_eq_true rfl) ⟨Nat.le_of_ble_eq_true rfl, Nat.le_of_ble_eq_true rfl, Nat.le_of_ble_eq_true rfl⟩ dL_describe_5 ?_
    have h : lt (mst σ1 155 0 v) (fun σ2 => some ((0 : Int32), σ2)) = some (r, τ) := h
    refine rg_i2l C dL_describe_8 ?_
    refine rg_lastore C h dL_describe_9 (fun σ2 h => ?_)
    refine rg_goto C (tgt := 21) (by decide) dL_describe_10 ?_
    refine rg_iconst C ic_0 dL_describe_21 ?_
    exact rw_iret C (Nat.le_of_ble_eq_true rfl) dL_describe_22 (re_i h)
  · have hM := mX9_describe hl (D := D) (cy := cy) hI hf
    refine sw_e h (fun he h => ?_) (fun hne0 h => ?_)
    · subst he
      exact rw_catch C g_X9_describe hc_9 o_0 ml_L_123 hM rfl rfl (by exact Nat.le_of_ble_eq_true rfl) ⟨Nat.le_of_ble_eq_true rfl, Nat.le_of_ble_eq_true rfl, Nat.le_of_ble_eq_true rfl⟩ dL_describe_5 [] ⟨0, 10, 13, 21⟩ [⟨0, 10, 17, 53⟩] rfl (fun z9 hz9 => by cases hz9) (by decide) (by decide) cl_L_21 (by decide +kernel) (by decide) dL_describe_13 ic_1 dL_describe_15 dL_describe_16 (re_i h)
    · skip
      refine sw_e h (fun he h => ?_) (fun hne1 h => ?_)
      · subst he
        exact rw_catch C g_X9_describe hc_9 o_0 ml_L_123 hM rfl rfl (by exact Nat.le_of_ble_eq_true rfl) ⟨Nat.le_of_ble_eq_true rfl, Nat.le_of_ble_eq_true rfl, Nat.le_of_ble_eq_true rfl⟩ dL_describe_5 [⟨0, 10, 13, 21⟩] ⟨0, 10, 17, 53⟩ [] rfl (fun z9 hz9 => by rcases List.mem_singleton.mp hz9 with rfl; exact Or.inr ⟨by decide, _, cl_L_21, by decide⟩) (by decide) (by decide) cl_L_53 (by decide +kernel) (by decide) dL_describe_17 ic_2 dL_describe_19 dL_describe_20 (re_i h)
      · exact no_e h
def wL_undo (σ : Mem) : Option (Int32 × Mem) := bx (fX9_undo σ) (fun r σ1 => some ((0 : Int32), mst σ1 155 0 r)) (fun e σ1 => if e = "java/util/NoSuchElementException" then some (1, σ1) else none)

set_option maxHeartbeats 4000000 in
set_option maxRecDepth 100000 in
theorem cL_undo_c {l : Launch} {D : va_G} {ad : Nat → Nat} {cy : Nat → ClassId} (hl : l.stackTraces = false) (hI : Inj ad) {σ τ : Mem} {r : Int32} (h : wL_undo σ = some (r, τ)) : CoW l D ad cy yL_undo cL_undo 3 (some .int) [(0, 8, 11, 53)] 8 253 1 [.ref (ad 0), .ref (ad 155)] σ (zi r) τ := by
  refine cow_of (av := [.inr 0, .inr 155]) hl hI (by decide +kernel) (Nat.le_of_ble_eq_true rfl) [some (.inr 0), some (.inr 155), none] rfl (fun V C => ?_)
  have C : Rg l D ad cy RL cL_undo 3 8 253 1 (tableOf [(0, 8, 11, 53)]) (FW D ad cy (zi r) τ 1) pT V := C
  refine rg_aload_n C dL_undo_0 rfl ?_
  refine rg_iconst C ic_0 dL_undo_1 ?_
  refine rg_aload_n C dL_undo_2 rfl ?_
  refine bx_e h (fun v σ1 hf h => ?_) (fun e9 σ1 hf h => ?_)
  · have hM := mX9_undo hl (D := D) (cy := cy) hI hf
    refine rg_callV C g_X9_undo hc_9 o_0 ml_L_126 hM rfl rfl (by exact Nat.le_of_ble_eq_true rfl) ⟨Nat.le_of_ble_eq_true rfl, Nat.le_of_ble_eq_true rfl, Nat.le_of_ble_eq_true rfl⟩ dL_undo_3 ?_
    have h : lt (mst σ1 155 0 v) (fun σ2 => some ((0 : Int32), σ2)) = some (r, τ) := h
    refine rg_i2l C dL_undo_6 ?_
    refine rg_lastore C h dL_undo_7 (fun σ2 h => ?_)
    refine rg_goto C (tgt := 14) (by decide) dL_undo_8 ?_
    refine rg_iconst C ic_0 dL_undo_14 ?_
    exact rw_iret C (Nat.le_of_ble_eq_true rfl) dL_undo_15 (re_i h)
  · have hM := mX9_undo hl (D := D) (cy := cy) hI hf
    refine sw_e h (fun he h => ?_) (fun hne0 h => ?_)
    · subst he
      exact rw_catchn C g_X9_undo hc_9 o_0 ml_L_126 hM rfl rfl (by exact Nat.le_of_ble_eq_true rfl) ⟨Nat.le_of_ble_eq_true rfl, Nat.le_of_ble_eq_true rfl, Nat.le_of_ble_eq_true rfl⟩ dL_undo_3 [] ⟨0, 8, 11, 53⟩ [] rfl (fun z9 hz9 => by cases hz9) (by decide) (by decide) cl_L_53 (by decide +kernel) (by decide) dL_undo_11 ic_1 dL_undo_12 dL_undo_13 (re_i h)
    · exact no_e h
def wL_restore (σ : Mem) : Option (Int32 × Mem) := bx (fX9_restore σ) (fun r σ1 => some ((0 : Int32), mst σ1 155 0 r)) (fun e σ1 => if e = "java/lang/IllegalStateException" then some (1, σ1) else none)

set_option maxHeartbeats 4000000 in
set_option maxRecDepth 100000 in
theorem cL_restore_c {l : Launch} {D : va_G} {ad : Nat → Nat} {cy : Nat → ClassId} (hl : l.stackTraces = false) (hI : Inj ad) {σ τ : Mem} {r : Int32} (h : wL_restore σ = some (r, τ)) : CoW l D ad cy yL_restore cL_restore 3 (some .int) [(0, 8, 11, 15)] 8 253 1 [.ref (ad 0), .ref (ad 155)] σ (zi r) τ := by
  refine cow_of (av := [.inr 0, .inr 155]) hl hI (by decide +kernel) (Nat.le_of_ble_eq_true rfl) [some (.inr 0), some (.inr 155), none] rfl (fun V C => ?_)
  have C : Rg l D ad cy RL cL_restore 3 8 253 1 (tableOf [(0, 8, 11, 15)]) (FW D ad cy (zi r) τ 1) pT V := C
  refine rg_aload_n C dL_restore_0 rfl ?_
  refine rg_iconst C ic_0 dL_restore_1 ?_
  refine rg_aload_n C dL_restore_2 rfl ?_
  refine bx_e h (fun v σ1 hf h => ?_) (fun e9 σ1 hf h => ?_)
  · have hM := mX9_restore hl (D := D) (cy := cy) hI hf
    refine rg_callV C g_X9_restore hc_9 o_0 ml_L_129 hM rfl rfl (by exact Nat.le_of_ble_eq_true rfl) ⟨Nat.le_of_ble_eq_true rfl, Nat.le_of_ble_eq_true rfl, Nat.le_of_ble_eq_true rfl⟩ dL_restore_3 ?_
    have h : lt (mst σ1 155 0 v) (fun σ2 => some ((0 : Int32), σ2)) = some (r, τ) := h
    refine rg_i2l C dL_restore_6 ?_
    refine rg_lastore C h dL_restore_7 (fun σ2 h => ?_)
    refine rg_goto C (tgt := 14) (by decide) dL_restore_8 ?_
    refine rg_iconst C ic_0 dL_restore_14 ?_
    exact rw_iret C (Nat.le_of_ble_eq_true rfl) dL_restore_15 (re_i h)
  · have hM := mX9_restore hl (D := D) (cy := cy) hI hf
    refine sw_e h (fun he h => ?_) (fun hne0 h => ?_)
    · subst he
      exact rw_catchn C g_X9_restore hc_9 o_0 ml_L_129 hM rfl rfl (by exact Nat.le_of_ble_eq_true rfl) ⟨Nat.le_of_ble_eq_true rfl, Nat.le_of_ble_eq_true rfl, Nat.le_of_ble_eq_true rfl⟩ dL_restore_3 [] ⟨0, 8, 11, 15⟩ [] rfl (fun z9 hz9 => by cases hz9) (by decide) (by decide) cl_L_15 (by decide +kernel) (by decide) dL_restore_11 ic_1 dL_restore_12 dL_restore_13 (re_i h)
    · exact no_e h
