/-! decode rows of the law: its calls -/
theorem dL_addTask_0 : decode cL_addTask 0 = .ok (.aload 5, 2) := by decide +kernel
theorem dL_addTask_2 : decode cL_addTask 2 = .ok (.iconst 0, 1) := by decide +kernel
theorem dL_addTask_3 : decode cL_addTask 3 = .ok (.aload_n 0, 1) := by decide +kernel
theorem dL_addTask_4 : decode cL_addTask 4 = .ok (.iload_n 1, 1) := by decide +kernel
theorem dL_addTask_5 : decode cL_addTask 5 = .ok (.iload_n 2, 1) := by decide +kernel
theorem dL_addTask_6 : decode cL_addTask 6 = .ok (.iload_n 3, 1) := by decide +kernel
theorem dL_addTask_7 : decode cL_addTask 7 = .ok (.iload 4, 2) := by decide +kernel
theorem dL_addTask_9 : decode cL_addTask 9 = .ok (.invokevirtual 7, 3) := by decide +kernel
theorem dL_addTask_12 : decode cL_addTask 12 = .ok (.i2l, 1) := by decide +kernel
theorem dL_addTask_13 : decode cL_addTask 13 = .ok (.lastore, 1) := by decide +kernel
theorem dL_addTask_14 : decode cL_addTask 14 = .ok (.goto 11, 3) := by decide +kernel
theorem dL_addTask_17 : decode cL_addTask 17 = .ok (.astore 6, 2) := by decide +kernel
theorem dL_addTask_19 : decode cL_addTask 19 = .ok (.iconst 1, 1) := by decide +kernel
theorem dL_addTask_20 : decode cL_addTask 20 = .ok (.ireturn, 1) := by decide +kernel
theorem dL_addTask_21 : decode cL_addTask 21 = .ok (.astore 6, 2) := by decide +kernel
theorem dL_addTask_23 : decode cL_addTask 23 = .ok (.iconst 2, 1) := by decide +kernel
theorem dL_addTask_24 : decode cL_addTask 24 = .ok (.ireturn, 1) := by decide +kernel
theorem dL_addTask_25 : decode cL_addTask 25 = .ok (.iconst 0, 1) := by decide +kernel
theorem dL_addTask_26 : decode cL_addTask 26 = .ok (.ireturn, 1) := by decide +kernel
theorem dL_removeTask_0 : decode cL_removeTask 0 = .ok (.aload_n 2, 1) := by decide +kernel
theorem dL_removeTask_1 : decode cL_removeTask 1 = .ok (.iconst 0, 1) := by decide +kernel
theorem dL_removeTask_2 : decode cL_removeTask 2 = .ok (.aload_n 0, 1) := by decide +kernel
theorem dL_removeTask_3 : decode cL_removeTask 3 = .ok (.iload_n 1, 1) := by decide +kernel
theorem dL_removeTask_4 : decode cL_removeTask 4 = .ok (.invokevirtual 17, 3) := by decide +kernel
theorem dL_removeTask_7 : decode cL_removeTask 7 = .ok (.i2l, 1) := by decide +kernel
theorem dL_removeTask_8 : decode cL_removeTask 8 = .ok (.lastore, 1) := by decide +kernel
theorem dL_removeTask_9 : decode cL_removeTask 9 = .ok (.goto 6, 3) := by decide +kernel
theorem dL_removeTask_12 : decode cL_removeTask 12 = .ok (.astore_n 3, 1) := by decide +kernel
theorem dL_removeTask_13 : decode cL_removeTask 13 = .ok (.iconst 1, 1) := by decide +kernel
theorem dL_removeTask_14 : decode cL_removeTask 14 = .ok (.ireturn, 1) := by decide +kernel
theorem dL_removeTask_15 : decode cL_removeTask 15 = .ok (.iconst 0, 1) := by decide +kernel
theorem dL_removeTask_16 : decode cL_removeTask 16 = .ok (.ireturn, 1) := by decide +kernel
theorem dL_addDependency_0 : decode cL_addDependency 0 = .ok (.aload_n 3, 1) := by decide +kernel
theorem dL_addDependency_1 : decode cL_addDependency 1 = .ok (.iconst 0, 1) := by decide +kernel
theorem dL_addDependency_2 : decode cL_addDependency 2 = .ok (.aload_n 0, 1) := by decide +kernel
theorem dL_addDependency_3 : decode cL_addDependency 3 = .ok (.iload_n 1, 1) := by decide +kernel
theorem dL_addDependency_4 : decode cL_addDependency 4 = .ok (.iload_n 2, 1) := by decide +kernel
theorem dL_addDependency_5 : decode cL_addDependency 5 = .ok (.invokevirtual 23, 3) := by decide +kernel
theorem dL_addDependency_8 : decode cL_addDependency 8 = .ok (.ifCond .eq 7, 3) := by decide +kernel
theorem dL_addDependency_11 : decode cL_addDependency 11 = .ok (.lconst 1, 1) := by decide +kernel
theorem dL_addDependency_12 : decode cL_addDependency 12 = .ok (.goto 4, 3) := by decide +kernel
theorem dL_addDependency_15 : decode cL_addDependency 15 = .ok (.lconst 0, 1) := by decide +kernel
theorem dL_addDependency_16 : decode cL_addDependency 16 = .ok (.lastore, 1) := by decide +kernel
theorem dL_addDependency_17 : decode cL_addDependency 17 = .ok (.goto 15, 3) := by decide +kernel
theorem dL_addDependency_20 : decode cL_addDependency 20 = .ok (.astore 4, 2) := by decide +kernel
theorem dL_addDependency_22 : decode cL_addDependency 22 = .ok (.iconst 1, 1) := by decide +kernel
theorem dL_addDependency_23 : decode cL_addDependency 23 = .ok (.ireturn, 1) := by decide +kernel
theorem dL_addDependency_24 : decode cL_addDependency 24 = .ok (.astore 4, 2) := by decide +kernel
theorem dL_addDependency_26 : decode cL_addDependency 26 = .ok (.iconst 2, 1) := by decide +kernel
theorem dL_addDependency_27 : decode cL_addDependency 27 = .ok (.ireturn, 1) := by decide +kernel
theorem dL_addDependency_28 : decode cL_addDependency 28 = .ok (.astore 4, 2) := by decide +kernel
theorem dL_addDependency_30 : decode cL_addDependency 30 = .ok (.iconst 3, 1) := by decide +kernel
theorem dL_addDependency_31 : decode cL_addDependency 31 = .ok (.ireturn, 1) := by decide +kernel
theorem dL_addDependency_32 : decode cL_addDependency 32 = .ok (.iconst 0, 1) := by decide +kernel
theorem dL_addDependency_33 : decode cL_addDependency 33 = .ok (.ireturn, 1) := by decide +kernel
theorem dL_removeDependency_0 : decode cL_removeDependency 0 = .ok (.aload_n 3, 1) := by decide +kernel
theorem dL_removeDependency_1 : decode cL_removeDependency 1 = .ok (.iconst 0, 1) := by decide +kernel
theorem dL_removeDependency_2 : decode cL_removeDependency 2 = .ok (.aload_n 0, 1) := by decide +kernel
theorem dL_removeDependency_3 : decode cL_removeDependency 3 = .ok (.iload_n 1, 1) := by decide +kernel
theorem dL_removeDependency_4 : decode cL_removeDependency 4 = .ok (.iload_n 2, 1) := by decide +kernel
theorem dL_removeDependency_5 : decode cL_removeDependency 5 = .ok (.invokevirtual 29, 3) := by decide +kernel
theorem dL_removeDependency_8 : decode cL_removeDependency 8 = .ok (.ifCond .eq 7, 3) := by decide +kernel
theorem dL_removeDependency_11 : decode cL_removeDependency 11 = .ok (.lconst 1, 1) := by decide +kernel
theorem dL_removeDependency_12 : decode cL_removeDependency 12 = .ok (.goto 4, 3) := by decide +kernel
theorem dL_removeDependency_15 : decode cL_removeDependency 15 = .ok (.lconst 0, 1) := by decide +kernel
theorem dL_removeDependency_16 : decode cL_removeDependency 16 = .ok (.lastore, 1) := by decide +kernel
theorem dL_removeDependency_17 : decode cL_removeDependency 17 = .ok (.goto 7, 3) := by decide +kernel
theorem dL_removeDependency_20 : decode cL_removeDependency 20 = .ok (.astore 4, 2) := by decide +kernel
theorem dL_removeDependency_22 : decode cL_removeDependency 22 = .ok (.iconst 1, 1) := by decide +kernel
theorem dL_removeDependency_23 : decode cL_removeDependency 23 = .ok (.ireturn, 1) := by decide +kernel
theorem dL_removeDependency_24 : decode cL_removeDependency 24 = .ok (.iconst 0, 1) := by decide +kernel
theorem dL_removeDependency_25 : decode cL_removeDependency 25 = .ok (.ireturn, 1) := by decide +kernel
theorem dL_setDuration_0 : decode cL_setDuration 0 = .ok (.aload_n 3, 1) := by decide +kernel
theorem dL_setDuration_1 : decode cL_setDuration 1 = .ok (.iconst 0, 1) := by decide +kernel
theorem dL_setDuration_2 : decode cL_setDuration 2 = .ok (.aload_n 0, 1) := by decide +kernel
theorem dL_setDuration_3 : decode cL_setDuration 3 = .ok (.iload_n 1, 1) := by decide +kernel
theorem dL_setDuration_4 : decode cL_setDuration 4 = .ok (.iload_n 2, 1) := by decide +kernel
theorem dL_setDuration_5 : decode cL_setDuration 5 = .ok (.invokevirtual 32, 3) := by decide +kernel
theorem dL_setDuration_8 : decode cL_setDuration 8 = .ok (.i2l, 1) := by decide +kernel
theorem dL_setDuration_9 : decode cL_setDuration 9 = .ok (.lastore, 1) := by decide +kernel
theorem dL_setDuration_10 : decode cL_setDuration 10 = .ok (.goto 11, 3) := by decide +kernel
theorem dL_setDuration_13 : decode cL_setDuration 13 = .ok (.astore 4, 2) := by decide +kernel
theorem dL_setDuration_15 : decode cL_setDuration 15 = .ok (.iconst 1, 1) := by decide +kernel
theorem dL_setDuration_16 : decode cL_setDuration 16 = .ok (.ireturn, 1) := by decide +kernel
theorem dL_setDuration_17 : decode cL_setDuration 17 = .ok (.astore 4, 2) := by decide +kernel
theorem dL_setDuration_19 : decode cL_setDuration 19 = .ok (.iconst 2, 1) := by decide +kernel
theorem dL_setDuration_20 : decode cL_setDuration 20 = .ok (.ireturn, 1) := by decide +kernel
theorem dL_setDuration_21 : decode cL_setDuration 21 = .ok (.iconst 0, 1) := by decide +kernel
theorem dL_setDuration_22 : decode cL_setDuration 22 = .ok (.ireturn, 1) := by decide +kernel
theorem dL_setRelease_0 : decode cL_setRelease 0 = .ok (.aload_n 3, 1) := by decide +kernel
theorem dL_setRelease_1 : decode cL_setRelease 1 = .ok (.iconst 0, 1) := by decide +kernel
theorem dL_setRelease_2 : decode cL_setRelease 2 = .ok (.aload_n 0, 1) := by decide +kernel
theorem dL_setRelease_3 : decode cL_setRelease 3 = .ok (.iload_n 1, 1) := by decide +kernel
theorem dL_setRelease_4 : decode cL_setRelease 4 = .ok (.iload_n 2, 1) := by decide +kernel
theorem dL_setRelease_5 : decode cL_setRelease 5 = .ok (.invokevirtual 36, 3) := by decide +kernel
theorem dL_setRelease_8 : decode cL_setRelease 8 = .ok (.i2l, 1) := by decide +kernel
theorem dL_setRelease_9 : decode cL_setRelease 9 = .ok (.lastore, 1) := by decide +kernel
theorem dL_setRelease_10 : decode cL_setRelease 10 = .ok (.goto 11, 3) := by decide +kernel
theorem dL_setRelease_13 : decode cL_setRelease 13 = .ok (.astore 4, 2) := by decide +kernel
theorem dL_setRelease_15 : decode cL_setRelease 15 = .ok (.iconst 1, 1) := by decide +kernel
theorem dL_setRelease_16 : decode cL_setRelease 16 = .ok (.ireturn, 1) := by decide +kernel
theorem dL_setRelease_17 : decode cL_setRelease 17 = .ok (.astore 4, 2) := by decide +kernel
theorem dL_setRelease_19 : decode cL_setRelease 19 = .ok (.iconst 2, 1) := by decide +kernel
theorem dL_setRelease_20 : decode cL_setRelease 20 = .ok (.ireturn, 1) := by decide +kernel
theorem dL_setRelease_21 : decode cL_setRelease 21 = .ok (.iconst 0, 1) := by decide +kernel
theorem dL_setRelease_22 : decode cL_setRelease 22 = .ok (.ireturn, 1) := by decide +kernel
theorem dL_setLimit_0 : decode cL_setLimit 0 = .ok (.aload_n 3, 1) := by decide +kernel
theorem dL_setLimit_1 : decode cL_setLimit 1 = .ok (.iconst 0, 1) := by decide +kernel
theorem dL_setLimit_2 : decode cL_setLimit 2 = .ok (.aload_n 0, 1) := by decide +kernel
theorem dL_setLimit_3 : decode cL_setLimit 3 = .ok (.iload_n 1, 1) := by decide +kernel
theorem dL_setLimit_4 : decode cL_setLimit 4 = .ok (.iload_n 2, 1) := by decide +kernel
theorem dL_setLimit_5 : decode cL_setLimit 5 = .ok (.invokevirtual 39, 3) := by decide +kernel
theorem dL_setLimit_8 : decode cL_setLimit 8 = .ok (.i2l, 1) := by decide +kernel
theorem dL_setLimit_9 : decode cL_setLimit 9 = .ok (.lastore, 1) := by decide +kernel
theorem dL_setLimit_10 : decode cL_setLimit 10 = .ok (.goto 7, 3) := by decide +kernel
theorem dL_setLimit_13 : decode cL_setLimit 13 = .ok (.astore 4, 2) := by decide +kernel
theorem dL_setLimit_15 : decode cL_setLimit 15 = .ok (.iconst 1, 1) := by decide +kernel
theorem dL_setLimit_16 : decode cL_setLimit 16 = .ok (.ireturn, 1) := by decide +kernel
theorem dL_setLimit_17 : decode cL_setLimit 17 = .ok (.iconst 0, 1) := by decide +kernel
theorem dL_setLimit_18 : decode cL_setLimit 18 = .ok (.ireturn, 1) := by decide +kernel
theorem dL_duration_0 : decode cL_duration 0 = .ok (.aload_n 2, 1) := by decide +kernel
theorem dL_duration_1 : decode cL_duration 1 = .ok (.iconst 0, 1) := by decide +kernel
theorem dL_duration_2 : decode cL_duration 2 = .ok (.aload_n 0, 1) := by decide +kernel
theorem dL_duration_3 : decode cL_duration 3 = .ok (.iload_n 1, 1) := by decide +kernel
theorem dL_duration_4 : decode cL_duration 4 = .ok (.invokevirtual 42, 3) := by decide +kernel
theorem dL_duration_7 : decode cL_duration 7 = .ok (.i2l, 1) := by decide +kernel
theorem dL_duration_8 : decode cL_duration 8 = .ok (.lastore, 1) := by decide +kernel
theorem dL_duration_9 : decode cL_duration 9 = .ok (.goto 6, 3) := by decide +kernel
theorem dL_duration_12 : decode cL_duration 12 = .ok (.astore_n 3, 1) := by decide +kernel
theorem dL_duration_13 : decode cL_duration 13 = .ok (.iconst 1, 1) := by decide +kernel
theorem dL_duration_14 : decode cL_duration 14 = .ok (.ireturn, 1) := by decide +kernel
theorem dL_duration_15 : decode cL_duration 15 = .ok (.iconst 0, 1) := by decide +kernel
theorem dL_duration_16 : decode cL_duration 16 = .ok (.ireturn, 1) := by decide +kernel
theorem dL_resource_0 : decode cL_resource 0 = .ok (.aload_n 2, 1) := by decide +kernel
theorem dL_resource_1 : decode cL_resource 1 = .ok (.iconst 0, 1) := by decide +kernel
theorem dL_resource_2 : decode cL_resource 2 = .ok (.aload_n 0, 1) := by decide +kernel
theorem dL_resource_3 : decode cL_resource 3 = .ok (.iload_n 1, 1) := by decide +kernel
theorem dL_resource_4 : decode cL_resource 4 = .ok (.invokevirtual 45, 3) := by decide +kernel
theorem dL_resource_7 : decode cL_resource 7 = .ok (.i2l, 1) := by decide +kernel
theorem dL_resource_8 : decode cL_resource 8 = .ok (.lastore, 1) := by decide +kernel
theorem dL_resource_9 : decode cL_resource 9 = .ok (.goto 6, 3) := by decide +kernel
theorem dL_resource_12 : decode cL_resource 12 = .ok (.astore_n 3, 1) := by decide +kernel
theorem dL_resource_13 : decode cL_resource 13 = .ok (.iconst 1, 1) := by decide +kernel
theorem dL_resource_14 : decode cL_resource 14 = .ok (.ireturn, 1) := by decide +kernel
theorem dL_resource_15 : decode cL_resource 15 = .ok (.iconst 0, 1) := by decide +kernel
theorem dL_resource_16 : decode cL_resource 16 = .ok (.ireturn, 1) := by decide +kernel
theorem dL_demand_0 : decode cL_demand 0 = .ok (.aload_n 2, 1) := by decide +kernel
theorem dL_demand_1 : decode cL_demand 1 = .ok (.iconst 0, 1) := by decide +kernel
theorem dL_demand_2 : decode cL_demand 2 = .ok (.aload_n 0, 1) := by decide +kernel
theorem dL_demand_3 : decode cL_demand 3 = .ok (.iload_n 1, 1) := by decide +kernel
theorem dL_demand_4 : decode cL_demand 4 = .ok (.invokevirtual 48, 3) := by decide +kernel
theorem dL_demand_7 : decode cL_demand 7 = .ok (.i2l, 1) := by decide +kernel
theorem dL_demand_8 : decode cL_demand 8 = .ok (.lastore, 1) := by decide +kernel
theorem dL_demand_9 : decode cL_demand 9 = .ok (.goto 6, 3) := by decide +kernel
theorem dL_demand_12 : decode cL_demand 12 = .ok (.astore_n 3, 1) := by decide +kernel
theorem dL_demand_13 : decode cL_demand 13 = .ok (.iconst 1, 1) := by decide +kernel
theorem dL_demand_14 : decode cL_demand 14 = .ok (.ireturn, 1) := by decide +kernel
theorem dL_demand_15 : decode cL_demand 15 = .ok (.iconst 0, 1) := by decide +kernel
theorem dL_demand_16 : decode cL_demand 16 = .ok (.ireturn, 1) := by decide +kernel
theorem dL_release_0 : decode cL_release 0 = .ok (.aload_n 2, 1) := by decide +kernel
theorem dL_release_1 : decode cL_release 1 = .ok (.iconst 0, 1) := by decide +kernel
theorem dL_release_2 : decode cL_release 2 = .ok (.aload_n 0, 1) := by decide +kernel
theorem dL_release_3 : decode cL_release 3 = .ok (.iload_n 1, 1) := by decide +kernel
theorem dL_release_4 : decode cL_release 4 = .ok (.invokevirtual 51, 3) := by decide +kernel
theorem dL_release_7 : decode cL_release 7 = .ok (.i2l, 1) := by decide +kernel
theorem dL_release_8 : decode cL_release 8 = .ok (.lastore, 1) := by decide +kernel
theorem dL_release_9 : decode cL_release 9 = .ok (.goto 6, 3) := by decide +kernel
theorem dL_release_12 : decode cL_release 12 = .ok (.astore_n 3, 1) := by decide +kernel
theorem dL_release_13 : decode cL_release 13 = .ok (.iconst 1, 1) := by decide +kernel
theorem dL_release_14 : decode cL_release 14 = .ok (.ireturn, 1) := by decide +kernel
theorem dL_release_15 : decode cL_release 15 = .ok (.iconst 0, 1) := by decide +kernel
theorem dL_release_16 : decode cL_release 16 = .ok (.ireturn, 1) := by decide +kernel
theorem dL_limit_0 : decode cL_limit 0 = .ok (.aload_n 2, 1) := by decide +kernel
theorem dL_limit_1 : decode cL_limit 1 = .ok (.iconst 0, 1) := by decide +kernel
theorem dL_limit_2 : decode cL_limit 2 = .ok (.aload_n 0, 1) := by decide +kernel
theorem dL_limit_3 : decode cL_limit 3 = .ok (.iload_n 1, 1) := by decide +kernel
theorem dL_limit_4 : decode cL_limit 4 = .ok (.invokevirtual 54, 3) := by decide +kernel
theorem dL_limit_7 : decode cL_limit 7 = .ok (.i2l, 1) := by decide +kernel
theorem dL_limit_8 : decode cL_limit 8 = .ok (.lastore, 1) := by decide +kernel
theorem dL_limit_9 : decode cL_limit 9 = .ok (.goto 6, 3) := by decide +kernel
theorem dL_limit_12 : decode cL_limit 12 = .ok (.astore_n 3, 1) := by decide +kernel
theorem dL_limit_13 : decode cL_limit 13 = .ok (.iconst 1, 1) := by decide +kernel
theorem dL_limit_14 : decode cL_limit 14 = .ok (.ireturn, 1) := by decide +kernel
theorem dL_limit_15 : decode cL_limit 15 = .ok (.iconst 0, 1) := by decide +kernel
theorem dL_limit_16 : decode cL_limit 16 = .ok (.ireturn, 1) := by decide +kernel
theorem dL_dependsDirectly_0 : decode cL_dependsDirectly 0 = .ok (.aload_n 3, 1) := by decide +kernel
theorem dL_dependsDirectly_1 : decode cL_dependsDirectly 1 = .ok (.iconst 0, 1) := by decide +kernel
theorem dL_dependsDirectly_2 : decode cL_dependsDirectly 2 = .ok (.aload_n 0, 1) := by decide +kernel
theorem dL_dependsDirectly_3 : decode cL_dependsDirectly 3 = .ok (.iload_n 1, 1) := by decide +kernel
theorem dL_dependsDirectly_4 : decode cL_dependsDirectly 4 = .ok (.iload_n 2, 1) := by decide +kernel
theorem dL_dependsDirectly_5 : decode cL_dependsDirectly 5 = .ok (.invokevirtual 57, 3) := by decide +kernel
theorem dL_dependsDirectly_8 : decode cL_dependsDirectly 8 = .ok (.ifCond .eq 7, 3) := by decide +kernel
theorem dL_dependsDirectly_11 : decode cL_dependsDirectly 11 = .ok (.lconst 1, 1) := by decide +kernel
theorem dL_dependsDirectly_12 : decode cL_dependsDirectly 12 = .ok (.goto 4, 3) := by decide +kernel
theorem dL_dependsDirectly_15 : decode cL_dependsDirectly 15 = .ok (.lconst 0, 1) := by decide +kernel
theorem dL_dependsDirectly_16 : decode cL_dependsDirectly 16 = .ok (.lastore, 1) := by decide +kernel
theorem dL_dependsDirectly_17 : decode cL_dependsDirectly 17 = .ok (.goto 7, 3) := by decide +kernel
theorem dL_dependsDirectly_20 : decode cL_dependsDirectly 20 = .ok (.astore 4, 2) := by decide +kernel
theorem dL_dependsDirectly_22 : decode cL_dependsDirectly 22 = .ok (.iconst 1, 1) := by decide +kernel
theorem dL_dependsDirectly_23 : decode cL_dependsDirectly 23 = .ok (.ireturn, 1) := by decide +kernel
theorem dL_dependsDirectly_24 : decode cL_dependsDirectly 24 = .ok (.iconst 0, 1) := by decide +kernel
theorem dL_dependsDirectly_25 : decode cL_dependsDirectly 25 = .ok (.ireturn, 1) := by decide +kernel
theorem dL_depends_0 : decode cL_depends 0 = .ok (.aload_n 3, 1) := by decide +kernel
theorem dL_depends_1 : decode cL_depends 1 = .ok (.iconst 0, 1) := by decide +kernel
theorem dL_depends_2 : decode cL_depends 2 = .ok (.aload_n 0, 1) := by decide +kernel
theorem dL_depends_3 : decode cL_depends 3 = .ok (.iload_n 1, 1) := by decide +kernel
theorem dL_depends_4 : decode cL_depends 4 = .ok (.iload_n 2, 1) := by decide +kernel
theorem dL_depends_5 : decode cL_depends 5 = .ok (.invokevirtual 60, 3) := by decide +kernel
theorem dL_depends_8 : decode cL_depends 8 = .ok (.ifCond .eq 7, 3) := by decide +kernel
theorem dL_depends_11 : decode cL_depends 11 = .ok (.lconst 1, 1) := by decide +kernel
theorem dL_depends_12 : decode cL_depends 12 = .ok (.goto 4, 3) := by decide +kernel
theorem dL_depends_15 : decode cL_depends 15 = .ok (.lconst 0, 1) := by decide +kernel
theorem dL_depends_16 : decode cL_depends 16 = .ok (.lastore, 1) := by decide +kernel
theorem dL_depends_17 : decode cL_depends 17 = .ok (.goto 7, 3) := by decide +kernel
theorem dL_depends_20 : decode cL_depends 20 = .ok (.astore 4, 2) := by decide +kernel
theorem dL_depends_22 : decode cL_depends 22 = .ok (.iconst 1, 1) := by decide +kernel
theorem dL_depends_23 : decode cL_depends 23 = .ok (.ireturn, 1) := by decide +kernel
theorem dL_depends_24 : decode cL_depends 24 = .ok (.iconst 0, 1) := by decide +kernel
theorem dL_depends_25 : decode cL_depends 25 = .ok (.ireturn, 1) := by decide +kernel
theorem dL_dependsByClosure_0 : decode cL_dependsByClosure 0 = .ok (.aload_n 3, 1) := by decide +kernel
theorem dL_dependsByClosure_1 : decode cL_dependsByClosure 1 = .ok (.iconst 0, 1) := by decide +kernel
theorem dL_dependsByClosure_2 : decode cL_dependsByClosure 2 = .ok (.aload_n 0, 1) := by decide +kernel
theorem dL_dependsByClosure_3 : decode cL_dependsByClosure 3 = .ok (.iload_n 1, 1) := by decide +kernel
theorem dL_dependsByClosure_4 : decode cL_dependsByClosure 4 = .ok (.iload_n 2, 1) := by decide +kernel
theorem dL_dependsByClosure_5 : decode cL_dependsByClosure 5 = .ok (.invokevirtual 63, 3) := by decide +kernel
theorem dL_dependsByClosure_8 : decode cL_dependsByClosure 8 = .ok (.ifCond .eq 7, 3) := by decide +kernel
theorem dL_dependsByClosure_11 : decode cL_dependsByClosure 11 = .ok (.lconst 1, 1) := by decide +kernel
theorem dL_dependsByClosure_12 : decode cL_dependsByClosure 12 = .ok (.goto 4, 3) := by decide +kernel
theorem dL_dependsByClosure_15 : decode cL_dependsByClosure 15 = .ok (.lconst 0, 1) := by decide +kernel
theorem dL_dependsByClosure_16 : decode cL_dependsByClosure 16 = .ok (.lastore, 1) := by decide +kernel
theorem dL_dependsByClosure_17 : decode cL_dependsByClosure 17 = .ok (.goto 7, 3) := by decide +kernel
theorem dL_dependsByClosure_20 : decode cL_dependsByClosure 20 = .ok (.astore 4, 2) := by decide +kernel
theorem dL_dependsByClosure_22 : decode cL_dependsByClosure 22 = .ok (.iconst 1, 1) := by decide +kernel
theorem dL_dependsByClosure_23 : decode cL_dependsByClosure 23 = .ok (.ireturn, 1) := by decide +kernel
theorem dL_dependsByClosure_24 : decode cL_dependsByClosure 24 = .ok (.iconst 0, 1) := by decide +kernel
theorem dL_dependsByClosure_25 : decode cL_dependsByClosure 25 = .ok (.ireturn, 1) := by decide +kernel
theorem dL_neededCount_0 : decode cL_neededCount 0 = .ok (.aload_n 2, 1) := by decide +kernel
theorem dL_neededCount_1 : decode cL_neededCount 1 = .ok (.iconst 0, 1) := by decide +kernel
theorem dL_neededCount_2 : decode cL_neededCount 2 = .ok (.aload_n 0, 1) := by decide +kernel
theorem dL_neededCount_3 : decode cL_neededCount 3 = .ok (.iload_n 1, 1) := by decide +kernel
theorem dL_neededCount_4 : decode cL_neededCount 4 = .ok (.invokevirtual 66, 3) := by decide +kernel
theorem dL_neededCount_7 : decode cL_neededCount 7 = .ok (.i2l, 1) := by decide +kernel
theorem dL_neededCount_8 : decode cL_neededCount 8 = .ok (.lastore, 1) := by decide +kernel
theorem dL_neededCount_9 : decode cL_neededCount 9 = .ok (.goto 6, 3) := by decide +kernel
theorem dL_neededCount_12 : decode cL_neededCount 12 = .ok (.astore_n 3, 1) := by decide +kernel
theorem dL_neededCount_13 : decode cL_neededCount 13 = .ok (.iconst 1, 1) := by decide +kernel
theorem dL_neededCount_14 : decode cL_neededCount 14 = .ok (.ireturn, 1) := by decide +kernel
theorem dL_neededCount_15 : decode cL_neededCount 15 = .ok (.iconst 0, 1) := by decide +kernel
theorem dL_neededCount_16 : decode cL_neededCount 16 = .ok (.ireturn, 1) := by decide +kernel
theorem dL_dependentCount_0 : decode cL_dependentCount 0 = .ok (.aload_n 2, 1) := by decide +kernel
theorem dL_dependentCount_1 : decode cL_dependentCount 1 = .ok (.iconst 0, 1) := by decide +kernel
theorem dL_dependentCount_2 : decode cL_dependentCount 2 = .ok (.aload_n 0, 1) := by decide +kernel
theorem dL_dependentCount_3 : decode cL_dependentCount 3 = .ok (.iload_n 1, 1) := by decide +kernel
theorem dL_dependentCount_4 : decode cL_dependentCount 4 = .ok (.invokevirtual 69, 3) := by decide +kernel
theorem dL_dependentCount_7 : decode cL_dependentCount 7 = .ok (.i2l, 1) := by decide +kernel
theorem dL_dependentCount_8 : decode cL_dependentCount 8 = .ok (.lastore, 1) := by decide +kernel
theorem dL_dependentCount_9 : decode cL_dependentCount 9 = .ok (.goto 6, 3) := by decide +kernel
theorem dL_dependentCount_12 : decode cL_dependentCount 12 = .ok (.astore_n 3, 1) := by decide +kernel
theorem dL_dependentCount_13 : decode cL_dependentCount 13 = .ok (.iconst 1, 1) := by decide +kernel
theorem dL_dependentCount_14 : decode cL_dependentCount 14 = .ok (.ireturn, 1) := by decide +kernel
theorem dL_dependentCount_15 : decode cL_dependentCount 15 = .ok (.iconst 0, 1) := by decide +kernel
theorem dL_dependentCount_16 : decode cL_dependentCount 16 = .ok (.ireturn, 1) := by decide +kernel
theorem dL_taskInOrder_0 : decode cL_taskInOrder 0 = .ok (.aload_n 2, 1) := by decide +kernel
theorem dL_taskInOrder_1 : decode cL_taskInOrder 1 = .ok (.iconst 0, 1) := by decide +kernel
theorem dL_taskInOrder_2 : decode cL_taskInOrder 2 = .ok (.aload_n 0, 1) := by decide +kernel
theorem dL_taskInOrder_3 : decode cL_taskInOrder 3 = .ok (.iload_n 1, 1) := by decide +kernel
theorem dL_taskInOrder_4 : decode cL_taskInOrder 4 = .ok (.invokevirtual 72, 3) := by decide +kernel
theorem dL_taskInOrder_7 : decode cL_taskInOrder 7 = .ok (.i2l, 1) := by decide +kernel
theorem dL_taskInOrder_8 : decode cL_taskInOrder 8 = .ok (.lastore, 1) := by decide +kernel
theorem dL_taskInOrder_9 : decode cL_taskInOrder 9 = .ok (.goto 6, 3) := by decide +kernel
theorem dL_taskInOrder_12 : decode cL_taskInOrder 12 = .ok (.astore_n 3, 1) := by decide +kernel
theorem dL_taskInOrder_13 : decode cL_taskInOrder 13 = .ok (.iconst 1, 1) := by decide +kernel
theorem dL_taskInOrder_14 : decode cL_taskInOrder 14 = .ok (.ireturn, 1) := by decide +kernel
theorem dL_taskInOrder_15 : decode cL_taskInOrder 15 = .ok (.iconst 0, 1) := by decide +kernel
theorem dL_taskInOrder_16 : decode cL_taskInOrder 16 = .ok (.ireturn, 1) := by decide +kernel
theorem dL_earliestStart_0 : decode cL_earliestStart 0 = .ok (.aload_n 2, 1) := by decide +kernel
theorem dL_earliestStart_1 : decode cL_earliestStart 1 = .ok (.iconst 0, 1) := by decide +kernel
theorem dL_earliestStart_2 : decode cL_earliestStart 2 = .ok (.aload_n 0, 1) := by decide +kernel
theorem dL_earliestStart_3 : decode cL_earliestStart 3 = .ok (.iload_n 1, 1) := by decide +kernel
theorem dL_earliestStart_4 : decode cL_earliestStart 4 = .ok (.invokevirtual 77, 3) := by decide +kernel
theorem dL_earliestStart_7 : decode cL_earliestStart 7 = .ok (.i2l, 1) := by decide +kernel
theorem dL_earliestStart_8 : decode cL_earliestStart 8 = .ok (.lastore, 1) := by decide +kernel
theorem dL_earliestStart_9 : decode cL_earliestStart 9 = .ok (.goto 6, 3) := by decide +kernel
theorem dL_earliestStart_12 : decode cL_earliestStart 12 = .ok (.astore_n 3, 1) := by decide +kernel
theorem dL_earliestStart_13 : decode cL_earliestStart 13 = .ok (.iconst 1, 1) := by decide +kernel
theorem dL_earliestStart_14 : decode cL_earliestStart 14 = .ok (.ireturn, 1) := by decide +kernel
theorem dL_earliestStart_15 : decode cL_earliestStart 15 = .ok (.iconst 0, 1) := by decide +kernel
theorem dL_earliestStart_16 : decode cL_earliestStart 16 = .ok (.ireturn, 1) := by decide +kernel
theorem dL_earliestStartByRounds_0 : decode cL_earliestStartByRounds 0 = .ok (.aload_n 2, 1) := by decide +kernel
theorem dL_earliestStartByRounds_1 : decode cL_earliestStartByRounds 1 = .ok (.iconst 0, 1) := by decide +kernel
theorem dL_earliestStartByRounds_2 : decode cL_earliestStartByRounds 2 = .ok (.aload_n 0, 1) := by decide +kernel
theorem dL_earliestStartByRounds_3 : decode cL_earliestStartByRounds 3 = .ok (.iload_n 1, 1) := by decide +kernel
theorem dL_earliestStartByRounds_4 : decode cL_earliestStartByRounds 4 = .ok (.invokevirtual 80, 3) := by decide +kernel
theorem dL_earliestStartByRounds_7 : decode cL_earliestStartByRounds 7 = .ok (.i2l, 1) := by decide +kernel
theorem dL_earliestStartByRounds_8 : decode cL_earliestStartByRounds 8 = .ok (.lastore, 1) := by decide +kernel
theorem dL_earliestStartByRounds_9 : decode cL_earliestStartByRounds 9 = .ok (.goto 6, 3) := by decide +kernel
theorem dL_earliestStartByRounds_12 : decode cL_earliestStartByRounds 12 = .ok (.astore_n 3, 1) := by decide +kernel
theorem dL_earliestStartByRounds_13 : decode cL_earliestStartByRounds 13 = .ok (.iconst 1, 1) := by decide +kernel
theorem dL_earliestStartByRounds_14 : decode cL_earliestStartByRounds 14 = .ok (.ireturn, 1) := by decide +kernel
theorem dL_earliestStartByRounds_15 : decode cL_earliestStartByRounds 15 = .ok (.iconst 0, 1) := by decide +kernel
theorem dL_earliestStartByRounds_16 : decode cL_earliestStartByRounds 16 = .ok (.ireturn, 1) := by decide +kernel
theorem dL_latestStart_0 : decode cL_latestStart 0 = .ok (.aload_n 2, 1) := by decide +kernel
theorem dL_latestStart_1 : decode cL_latestStart 1 = .ok (.iconst 0, 1) := by decide +kernel
theorem dL_latestStart_2 : decode cL_latestStart 2 = .ok (.aload_n 0, 1) := by decide +kernel
theorem dL_latestStart_3 : decode cL_latestStart 3 = .ok (.iload_n 1, 1) := by decide +kernel
theorem dL_latestStart_4 : decode cL_latestStart 4 = .ok (.invokevirtual 83, 3) := by decide +kernel
theorem dL_latestStart_7 : decode cL_latestStart 7 = .ok (.i2l, 1) := by decide +kernel
theorem dL_latestStart_8 : decode cL_latestStart 8 = .ok (.lastore, 1) := by decide +kernel
theorem dL_latestStart_9 : decode cL_latestStart 9 = .ok (.goto 6, 3) := by decide +kernel
theorem dL_latestStart_12 : decode cL_latestStart 12 = .ok (.astore_n 3, 1) := by decide +kernel
theorem dL_latestStart_13 : decode cL_latestStart 13 = .ok (.iconst 1, 1) := by decide +kernel
theorem dL_latestStart_14 : decode cL_latestStart 14 = .ok (.ireturn, 1) := by decide +kernel
theorem dL_latestStart_15 : decode cL_latestStart 15 = .ok (.iconst 0, 1) := by decide +kernel
theorem dL_latestStart_16 : decode cL_latestStart 16 = .ok (.ireturn, 1) := by decide +kernel
theorem dL_slack_0 : decode cL_slack 0 = .ok (.aload_n 2, 1) := by decide +kernel
theorem dL_slack_1 : decode cL_slack 1 = .ok (.iconst 0, 1) := by decide +kernel
theorem dL_slack_2 : decode cL_slack 2 = .ok (.aload_n 0, 1) := by decide +kernel
theorem dL_slack_3 : decode cL_slack 3 = .ok (.iload_n 1, 1) := by decide +kernel
theorem dL_slack_4 : decode cL_slack 4 = .ok (.invokevirtual 86, 3) := by decide +kernel
theorem dL_slack_7 : decode cL_slack 7 = .ok (.i2l, 1) := by decide +kernel
theorem dL_slack_8 : decode cL_slack 8 = .ok (.lastore, 1) := by decide +kernel
theorem dL_slack_9 : decode cL_slack 9 = .ok (.goto 6, 3) := by decide +kernel
theorem dL_slack_12 : decode cL_slack 12 = .ok (.astore_n 3, 1) := by decide +kernel
theorem dL_slack_13 : decode cL_slack 13 = .ok (.iconst 1, 1) := by decide +kernel
theorem dL_slack_14 : decode cL_slack 14 = .ok (.ireturn, 1) := by decide +kernel
theorem dL_slack_15 : decode cL_slack 15 = .ok (.iconst 0, 1) := by decide +kernel
theorem dL_slack_16 : decode cL_slack 16 = .ok (.ireturn, 1) := by decide +kernel
theorem dL_isCritical_0 : decode cL_isCritical 0 = .ok (.aload_n 2, 1) := by decide +kernel
theorem dL_isCritical_1 : decode cL_isCritical 1 = .ok (.iconst 0, 1) := by decide +kernel
theorem dL_isCritical_2 : decode cL_isCritical 2 = .ok (.aload_n 0, 1) := by decide +kernel
theorem dL_isCritical_3 : decode cL_isCritical 3 = .ok (.iload_n 1, 1) := by decide +kernel
theorem dL_isCritical_4 : decode cL_isCritical 4 = .ok (.invokevirtual 89, 3) := by decide +kernel
theorem dL_isCritical_7 : decode cL_isCritical 7 = .ok (.ifCond .eq 7, 3) := by decide +kernel
theorem dL_isCritical_10 : decode cL_isCritical 10 = .ok (.lconst 1, 1) := by decide +kernel
theorem dL_isCritical_11 : decode cL_isCritical 11 = .ok (.goto 4, 3) := by decide +kernel
theorem dL_isCritical_14 : decode cL_isCritical 14 = .ok (.lconst 0, 1) := by decide +kernel
theorem dL_isCritical_15 : decode cL_isCritical 15 = .ok (.lastore, 1) := by decide +kernel
theorem dL_isCritical_16 : decode cL_isCritical 16 = .ok (.goto 6, 3) := by decide +kernel
theorem dL_isCritical_19 : decode cL_isCritical 19 = .ok (.astore_n 3, 1) := by decide +kernel
theorem dL_isCritical_20 : decode cL_isCritical 20 = .ok (.iconst 1, 1) := by decide +kernel
theorem dL_isCritical_21 : decode cL_isCritical 21 = .ok (.ireturn, 1) := by decide +kernel
theorem dL_isCritical_22 : decode cL_isCritical 22 = .ok (.iconst 0, 1) := by decide +kernel
theorem dL_isCritical_23 : decode cL_isCritical 23 = .ok (.ireturn, 1) := by decide +kernel
theorem dL_lastTask_0 : decode cL_lastTask 0 = .ok (.aload_n 1, 1) := by decide +kernel
theorem dL_lastTask_1 : decode cL_lastTask 1 = .ok (.iconst 0, 1) := by decide +kernel
theorem dL_lastTask_2 : decode cL_lastTask 2 = .ok (.aload_n 0, 1) := by decide +kernel
theorem dL_lastTask_3 : decode cL_lastTask 3 = .ok (.invokevirtual 93, 3) := by decide +kernel
theorem dL_lastTask_6 : decode cL_lastTask 6 = .ok (.i2l, 1) := by decide +kernel
theorem dL_lastTask_7 : decode cL_lastTask 7 = .ok (.lastore, 1) := by decide +kernel
theorem dL_lastTask_8 : decode cL_lastTask 8 = .ok (.goto 6, 3) := by decide +kernel
theorem dL_lastTask_11 : decode cL_lastTask 11 = .ok (.astore_n 2, 1) := by decide +kernel
theorem dL_lastTask_12 : decode cL_lastTask 12 = .ok (.iconst 1, 1) := by decide +kernel
theorem dL_lastTask_13 : decode cL_lastTask 13 = .ok (.ireturn, 1) := by decide +kernel
theorem dL_lastTask_14 : decode cL_lastTask 14 = .ok (.iconst 0, 1) := by decide +kernel
theorem dL_lastTask_15 : decode cL_lastTask 15 = .ok (.ireturn, 1) := by decide +kernel
theorem dL_levelledStart_0 : decode cL_levelledStart 0 = .ok (.aload_n 2, 1) := by decide +kernel
theorem dL_levelledStart_1 : decode cL_levelledStart 1 = .ok (.iconst 0, 1) := by decide +kernel
theorem dL_levelledStart_2 : decode cL_levelledStart 2 = .ok (.aload_n 0, 1) := by decide +kernel
theorem dL_levelledStart_3 : decode cL_levelledStart 3 = .ok (.iload_n 1, 1) := by decide +kernel
theorem dL_levelledStart_4 : decode cL_levelledStart 4 = .ok (.invokevirtual 97, 3) := by decide +kernel
theorem dL_levelledStart_7 : decode cL_levelledStart 7 = .ok (.i2l, 1) := by decide +kernel
theorem dL_levelledStart_8 : decode cL_levelledStart 8 = .ok (.lastore, 1) := by decide +kernel
theorem dL_levelledStart_9 : decode cL_levelledStart 9 = .ok (.goto 6, 3) := by decide +kernel
theorem dL_levelledStart_12 : decode cL_levelledStart 12 = .ok (.astore_n 3, 1) := by decide +kernel
theorem dL_levelledStart_13 : decode cL_levelledStart 13 = .ok (.iconst 1, 1) := by decide +kernel
theorem dL_levelledStart_14 : decode cL_levelledStart 14 = .ok (.ireturn, 1) := by decide +kernel
theorem dL_levelledStart_15 : decode cL_levelledStart 15 = .ok (.iconst 0, 1) := by decide +kernel
theorem dL_levelledStart_16 : decode cL_levelledStart 16 = .ok (.ireturn, 1) := by decide +kernel
theorem dL_usage_0 : decode cL_usage 0 = .ok (.aload_n 3, 1) := by decide +kernel
theorem dL_usage_1 : decode cL_usage 1 = .ok (.iconst 0, 1) := by decide +kernel
theorem dL_usage_2 : decode cL_usage 2 = .ok (.aload_n 0, 1) := by decide +kernel
theorem dL_usage_3 : decode cL_usage 3 = .ok (.iload_n 1, 1) := by decide +kernel
theorem dL_usage_4 : decode cL_usage 4 = .ok (.iload_n 2, 1) := by decide +kernel
theorem dL_usage_5 : decode cL_usage 5 = .ok (.invokevirtual 100, 3) := by decide +kernel
theorem dL_usage_8 : decode cL_usage 8 = .ok (.i2l, 1) := by decide +kernel
theorem dL_usage_9 : decode cL_usage 9 = .ok (.lastore, 1) := by decide +kernel
theorem dL_usage_10 : decode cL_usage 10 = .ok (.goto 7, 3) := by decide +kernel
theorem dL_usage_13 : decode cL_usage 13 = .ok (.astore 4, 2) := by decide +kernel
theorem dL_usage_15 : decode cL_usage 15 = .ok (.iconst 1, 1) := by decide +kernel
theorem dL_usage_16 : decode cL_usage 16 = .ok (.ireturn, 1) := by decide +kernel
theorem dL_usage_17 : decode cL_usage 17 = .ok (.iconst 0, 1) := by decide +kernel
theorem dL_usage_18 : decode cL_usage 18 = .ok (.ireturn, 1) := by decide +kernel
theorem dL_usageByTasks_0 : decode cL_usageByTasks 0 = .ok (.aload_n 3, 1) := by decide +kernel
theorem dL_usageByTasks_1 : decode cL_usageByTasks 1 = .ok (.iconst 0, 1) := by decide +kernel
theorem dL_usageByTasks_2 : decode cL_usageByTasks 2 = .ok (.aload_n 0, 1) := by decide +kernel
theorem dL_usageByTasks_3 : decode cL_usageByTasks 3 = .ok (.iload_n 1, 1) := by decide +kernel
theorem dL_usageByTasks_4 : decode cL_usageByTasks 4 = .ok (.iload_n 2, 1) := by decide +kernel
theorem dL_usageByTasks_5 : decode cL_usageByTasks 5 = .ok (.invokevirtual 103, 3) := by decide +kernel
theorem dL_usageByTasks_8 : decode cL_usageByTasks 8 = .ok (.i2l, 1) := by decide +kernel
theorem dL_usageByTasks_9 : decode cL_usageByTasks 9 = .ok (.lastore, 1) := by decide +kernel
theorem dL_usageByTasks_10 : decode cL_usageByTasks 10 = .ok (.goto 7, 3) := by decide +kernel
theorem dL_usageByTasks_13 : decode cL_usageByTasks 13 = .ok (.astore 4, 2) := by decide +kernel
theorem dL_usageByTasks_15 : decode cL_usageByTasks 15 = .ok (.iconst 1, 1) := by decide +kernel
theorem dL_usageByTasks_16 : decode cL_usageByTasks 16 = .ok (.ireturn, 1) := by decide +kernel
theorem dL_usageByTasks_17 : decode cL_usageByTasks 17 = .ok (.iconst 0, 1) := by decide +kernel
theorem dL_usageByTasks_18 : decode cL_usageByTasks 18 = .ok (.ireturn, 1) := by decide +kernel
theorem dL_peakUsage_0 : decode cL_peakUsage 0 = .ok (.aload_n 2, 1) := by decide +kernel
theorem dL_peakUsage_1 : decode cL_peakUsage 1 = .ok (.iconst 0, 1) := by decide +kernel
theorem dL_peakUsage_2 : decode cL_peakUsage 2 = .ok (.aload_n 0, 1) := by decide +kernel
theorem dL_peakUsage_3 : decode cL_peakUsage 3 = .ok (.iload_n 1, 1) := by decide +kernel
theorem dL_peakUsage_4 : decode cL_peakUsage 4 = .ok (.invokevirtual 106, 3) := by decide +kernel
theorem dL_peakUsage_7 : decode cL_peakUsage 7 = .ok (.i2l, 1) := by decide +kernel
theorem dL_peakUsage_8 : decode cL_peakUsage 8 = .ok (.lastore, 1) := by decide +kernel
theorem dL_peakUsage_9 : decode cL_peakUsage 9 = .ok (.goto 6, 3) := by decide +kernel
theorem dL_peakUsage_12 : decode cL_peakUsage 12 = .ok (.astore_n 3, 1) := by decide +kernel
theorem dL_peakUsage_13 : decode cL_peakUsage 13 = .ok (.iconst 1, 1) := by decide +kernel
theorem dL_peakUsage_14 : decode cL_peakUsage 14 = .ok (.ireturn, 1) := by decide +kernel
theorem dL_peakUsage_15 : decode cL_peakUsage 15 = .ok (.iconst 0, 1) := by decide +kernel
theorem dL_peakUsage_16 : decode cL_peakUsage 16 = .ok (.ireturn, 1) := by decide +kernel
theorem dL_tasksOn_0 : decode cL_tasksOn 0 = .ok (.aload_n 2, 1) := by decide +kernel
theorem dL_tasksOn_1 : decode cL_tasksOn 1 = .ok (.iconst 0, 1) := by decide +kernel
theorem dL_tasksOn_2 : decode cL_tasksOn 2 = .ok (.aload_n 0, 1) := by decide +kernel
theorem dL_tasksOn_3 : decode cL_tasksOn 3 = .ok (.iload_n 1, 1) := by decide +kernel
theorem dL_tasksOn_4 : decode cL_tasksOn 4 = .ok (.invokevirtual 109, 3) := by decide +kernel
theorem dL_tasksOn_7 : decode cL_tasksOn 7 = .ok (.i2l, 1) := by decide +kernel
theorem dL_tasksOn_8 : decode cL_tasksOn 8 = .ok (.lastore, 1) := by decide +kernel
theorem dL_tasksOn_9 : decode cL_tasksOn 9 = .ok (.goto 6, 3) := by decide +kernel
theorem dL_tasksOn_12 : decode cL_tasksOn 12 = .ok (.astore_n 3, 1) := by decide +kernel
theorem dL_tasksOn_13 : decode cL_tasksOn 13 = .ok (.iconst 1, 1) := by decide +kernel
theorem dL_tasksOn_14 : decode cL_tasksOn 14 = .ok (.ireturn, 1) := by decide +kernel
theorem dL_tasksOn_15 : decode cL_tasksOn 15 = .ok (.iconst 0, 1) := by decide +kernel
theorem dL_tasksOn_16 : decode cL_tasksOn 16 = .ok (.ireturn, 1) := by decide +kernel
theorem dL_workload_0 : decode cL_workload 0 = .ok (.aload_n 2, 1) := by decide +kernel
theorem dL_workload_1 : decode cL_workload 1 = .ok (.iconst 0, 1) := by decide +kernel
theorem dL_workload_2 : decode cL_workload 2 = .ok (.aload_n 0, 1) := by decide +kernel
theorem dL_workload_3 : decode cL_workload 3 = .ok (.iload_n 1, 1) := by decide +kernel
theorem dL_workload_4 : decode cL_workload 4 = .ok (.invokevirtual 112, 3) := by decide +kernel
theorem dL_workload_7 : decode cL_workload 7 = .ok (.i2l, 1) := by decide +kernel
theorem dL_workload_8 : decode cL_workload 8 = .ok (.lastore, 1) := by decide +kernel
theorem dL_workload_9 : decode cL_workload 9 = .ok (.goto 6, 3) := by decide +kernel
theorem dL_workload_12 : decode cL_workload 12 = .ok (.astore_n 3, 1) := by decide +kernel
theorem dL_workload_13 : decode cL_workload 13 = .ok (.iconst 1, 1) := by decide +kernel
theorem dL_workload_14 : decode cL_workload 14 = .ok (.ireturn, 1) := by decide +kernel
theorem dL_workload_15 : decode cL_workload 15 = .ok (.iconst 0, 1) := by decide +kernel
theorem dL_workload_16 : decode cL_workload 16 = .ok (.ireturn, 1) := by decide +kernel
theorem dL_workloadByDays_0 : decode cL_workloadByDays 0 = .ok (.aload_n 2, 1) := by decide +kernel
theorem dL_workloadByDays_1 : decode cL_workloadByDays 1 = .ok (.iconst 0, 1) := by decide +kernel
theorem dL_workloadByDays_2 : decode cL_workloadByDays 2 = .ok (.aload_n 0, 1) := by decide +kernel
theorem dL_workloadByDays_3 : decode cL_workloadByDays 3 = .ok (.iload_n 1, 1) := by decide +kernel
theorem dL_workloadByDays_4 : decode cL_workloadByDays 4 = .ok (.invokevirtual 115, 3) := by decide +kernel
theorem dL_workloadByDays_7 : decode cL_workloadByDays 7 = .ok (.i2l, 1) := by decide +kernel
theorem dL_workloadByDays_8 : decode cL_workloadByDays 8 = .ok (.lastore, 1) := by decide +kernel
theorem dL_workloadByDays_9 : decode cL_workloadByDays 9 = .ok (.goto 6, 3) := by decide +kernel
theorem dL_workloadByDays_12 : decode cL_workloadByDays 12 = .ok (.astore_n 3, 1) := by decide +kernel
theorem dL_workloadByDays_13 : decode cL_workloadByDays 13 = .ok (.iconst 1, 1) := by decide +kernel
theorem dL_workloadByDays_14 : decode cL_workloadByDays 14 = .ok (.ireturn, 1) := by decide +kernel
theorem dL_workloadByDays_15 : decode cL_workloadByDays 15 = .ok (.iconst 0, 1) := by decide +kernel
theorem dL_workloadByDays_16 : decode cL_workloadByDays 16 = .ok (.ireturn, 1) := by decide +kernel
theorem dL_baselineStart_0 : decode cL_baselineStart 0 = .ok (.aload_n 2, 1) := by decide +kernel
theorem dL_baselineStart_1 : decode cL_baselineStart 1 = .ok (.iconst 0, 1) := by decide +kernel
theorem dL_baselineStart_2 : decode cL_baselineStart 2 = .ok (.aload_n 0, 1) := by decide +kernel
theorem dL_baselineStart_3 : decode cL_baselineStart 3 = .ok (.iload_n 1, 1) := by decide +kernel
theorem dL_baselineStart_4 : decode cL_baselineStart 4 = .ok (.invokevirtual 118, 3) := by decide +kernel
theorem dL_baselineStart_7 : decode cL_baselineStart 7 = .ok (.i2l, 1) := by decide +kernel
theorem dL_baselineStart_8 : decode cL_baselineStart 8 = .ok (.lastore, 1) := by decide +kernel
theorem dL_baselineStart_9 : decode cL_baselineStart 9 = .ok (.goto 9, 3) := by decide +kernel
theorem dL_baselineStart_12 : decode cL_baselineStart 12 = .ok (.astore_n 3, 1) := by decide +kernel
theorem dL_baselineStart_13 : decode cL_baselineStart 13 = .ok (.iconst 1, 1) := by decide +kernel
theorem dL_baselineStart_14 : decode cL_baselineStart 14 = .ok (.ireturn, 1) := by decide +kernel
theorem dL_baselineStart_15 : decode cL_baselineStart 15 = .ok (.astore_n 3, 1) := by decide +kernel
theorem dL_baselineStart_16 : decode cL_baselineStart 16 = .ok (.iconst 2, 1) := by decide +kernel
theorem dL_baselineStart_17 : decode cL_baselineStart 17 = .ok (.ireturn, 1) := by decide +kernel
theorem dL_baselineStart_18 : decode cL_baselineStart 18 = .ok (.iconst 0, 1) := by decide +kernel
theorem dL_baselineStart_19 : decode cL_baselineStart 19 = .ok (.ireturn, 1) := by decide +kernel
theorem dL_drift_0 : decode cL_drift 0 = .ok (.aload_n 2, 1) := by decide +kernel
theorem dL_drift_1 : decode cL_drift 1 = .ok (.iconst 0, 1) := by decide +kernel
theorem dL_drift_2 : decode cL_drift 2 = .ok (.aload_n 0, 1) := by decide +kernel
theorem dL_drift_3 : decode cL_drift 3 = .ok (.iload_n 1, 1) := by decide +kernel
theorem dL_drift_4 : decode cL_drift 4 = .ok (.invokevirtual 121, 3) := by decide +kernel
theorem dL_drift_7 : decode cL_drift 7 = .ok (.i2l, 1) := by decide +kernel
theorem dL_drift_8 : decode cL_drift 8 = .ok (.lastore, 1) := by decide +kernel
theorem dL_drift_9 : decode cL_drift 9 = .ok (.goto 9, 3) := by decide +kernel
theorem dL_drift_12 : decode cL_drift 12 = .ok (.astore_n 3, 1) := by decide +kernel
theorem dL_drift_13 : decode cL_drift 13 = .ok (.iconst 1, 1) := by decide +kernel
theorem dL_drift_14 : decode cL_drift 14 = .ok (.ireturn, 1) := by decide +kernel
theorem dL_drift_15 : decode cL_drift 15 = .ok (.astore_n 3, 1) := by decide +kernel
theorem dL_drift_16 : decode cL_drift 16 = .ok (.iconst 2, 1) := by decide +kernel
theorem dL_drift_17 : decode cL_drift 17 = .ok (.ireturn, 1) := by decide +kernel
theorem dL_drift_18 : decode cL_drift 18 = .ok (.iconst 0, 1) := by decide +kernel
theorem dL_drift_19 : decode cL_drift 19 = .ok (.ireturn, 1) := by decide +kernel
theorem dL_totalDrift_0 : decode cL_totalDrift 0 = .ok (.aload_n 1, 1) := by decide +kernel
theorem dL_totalDrift_1 : decode cL_totalDrift 1 = .ok (.iconst 0, 1) := by decide +kernel
theorem dL_totalDrift_2 : decode cL_totalDrift 2 = .ok (.aload_n 0, 1) := by decide +kernel
theorem dL_totalDrift_3 : decode cL_totalDrift 3 = .ok (.invokevirtual 124, 3) := by decide +kernel
theorem dL_totalDrift_6 : decode cL_totalDrift 6 = .ok (.i2l, 1) := by decide +kernel
theorem dL_totalDrift_7 : decode cL_totalDrift 7 = .ok (.lastore, 1) := by decide +kernel
theorem dL_totalDrift_8 : decode cL_totalDrift 8 = .ok (.goto 6, 3) := by decide +kernel
theorem dL_totalDrift_11 : decode cL_totalDrift 11 = .ok (.astore_n 2, 1) := by decide +kernel
theorem dL_totalDrift_12 : decode cL_totalDrift 12 = .ok (.iconst 1, 1) := by decide +kernel
theorem dL_totalDrift_13 : decode cL_totalDrift 13 = .ok (.ireturn, 1) := by decide +kernel
theorem dL_totalDrift_14 : decode cL_totalDrift 14 = .ok (.iconst 0, 1) := by decide +kernel
theorem dL_totalDrift_15 : decode cL_totalDrift 15 = .ok (.ireturn, 1) := by decide +kernel
theorem dL_taskBySlack_0 : decode cL_taskBySlack 0 = .ok (.aload_n 2, 1) := by decide +kernel
theorem dL_taskBySlack_1 : decode cL_taskBySlack 1 = .ok (.iconst 0, 1) := by decide +kernel
theorem dL_taskBySlack_2 : decode cL_taskBySlack 2 = .ok (.aload_n 0, 1) := by decide +kernel
theorem dL_taskBySlack_3 : decode cL_taskBySlack 3 = .ok (.iload_n 1, 1) := by decide +kernel
theorem dL_taskBySlack_4 : decode cL_taskBySlack 4 = .ok (.invokevirtual 127, 3) := by decide +kernel
theorem dL_taskBySlack_7 : decode cL_taskBySlack 7 = .ok (.i2l, 1) := by decide +kernel
theorem dL_taskBySlack_8 : decode cL_taskBySlack 8 = .ok (.lastore, 1) := by decide +kernel
theorem dL_taskBySlack_9 : decode cL_taskBySlack 9 = .ok (.goto 6, 3) := by decide +kernel
theorem dL_taskBySlack_12 : decode cL_taskBySlack 12 = .ok (.astore_n 3, 1) := by decide +kernel
theorem dL_taskBySlack_13 : decode cL_taskBySlack 13 = .ok (.iconst 1, 1) := by decide +kernel
theorem dL_taskBySlack_14 : decode cL_taskBySlack 14 = .ok (.ireturn, 1) := by decide +kernel
theorem dL_taskBySlack_15 : decode cL_taskBySlack 15 = .ok (.iconst 0, 1) := by decide +kernel
theorem dL_taskBySlack_16 : decode cL_taskBySlack 16 = .ok (.ireturn, 1) := by decide +kernel
theorem dL_taskByStart_0 : decode cL_taskByStart 0 = .ok (.aload_n 2, 1) := by decide +kernel
theorem dL_taskByStart_1 : decode cL_taskByStart 1 = .ok (.iconst 0, 1) := by decide +kernel
theorem dL_taskByStart_2 : decode cL_taskByStart 2 = .ok (.aload_n 0, 1) := by decide +kernel
theorem dL_taskByStart_3 : decode cL_taskByStart 3 = .ok (.iload_n 1, 1) := by decide +kernel
theorem dL_taskByStart_4 : decode cL_taskByStart 4 = .ok (.invokevirtual 130, 3) := by decide +kernel
theorem dL_taskByStart_7 : decode cL_taskByStart 7 = .ok (.i2l, 1) := by decide +kernel
theorem dL_taskByStart_8 : decode cL_taskByStart 8 = .ok (.lastore, 1) := by decide +kernel
theorem dL_taskByStart_9 : decode cL_taskByStart 9 = .ok (.goto 6, 3) := by decide +kernel
theorem dL_taskByStart_12 : decode cL_taskByStart 12 = .ok (.astore_n 3, 1) := by decide +kernel
theorem dL_taskByStart_13 : decode cL_taskByStart 13 = .ok (.iconst 1, 1) := by decide +kernel
theorem dL_taskByStart_14 : decode cL_taskByStart 14 = .ok (.ireturn, 1) := by decide +kernel
theorem dL_taskByStart_15 : decode cL_taskByStart 15 = .ok (.iconst 0, 1) := by decide +kernel
theorem dL_taskByStart_16 : decode cL_taskByStart 16 = .ok (.ireturn, 1) := by decide +kernel
theorem dL_meanSlack_0 : decode cL_meanSlack 0 = .ok (.aload_n 1, 1) := by decide +kernel
theorem dL_meanSlack_1 : decode cL_meanSlack 1 = .ok (.iconst 0, 1) := by decide +kernel
theorem dL_meanSlack_2 : decode cL_meanSlack 2 = .ok (.aload_n 0, 1) := by decide +kernel
theorem dL_meanSlack_3 : decode cL_meanSlack 3 = .ok (.invokevirtual 133, 3) := by decide +kernel
theorem dL_meanSlack_6 : decode cL_meanSlack 6 = .ok (.dastore, 1) := by decide +kernel
theorem dL_meanSlack_7 : decode cL_meanSlack 7 = .ok (.goto 6, 3) := by decide +kernel
theorem dL_meanSlack_10 : decode cL_meanSlack 10 = .ok (.astore_n 2, 1) := by decide +kernel
theorem dL_meanSlack_11 : decode cL_meanSlack 11 = .ok (.iconst 1, 1) := by decide +kernel
theorem dL_meanSlack_12 : decode cL_meanSlack 12 = .ok (.ireturn, 1) := by decide +kernel
theorem dL_meanSlack_13 : decode cL_meanSlack 13 = .ok (.iconst 0, 1) := by decide +kernel
theorem dL_meanSlack_14 : decode cL_meanSlack 14 = .ok (.ireturn, 1) := by decide +kernel
theorem dL_utilization_0 : decode cL_utilization 0 = .ok (.aload_n 2, 1) := by decide +kernel
theorem dL_utilization_1 : decode cL_utilization 1 = .ok (.iconst 0, 1) := by decide +kernel
theorem dL_utilization_2 : decode cL_utilization 2 = .ok (.aload_n 0, 1) := by decide +kernel
theorem dL_utilization_3 : decode cL_utilization 3 = .ok (.iload_n 1, 1) := by decide +kernel
theorem dL_utilization_4 : decode cL_utilization 4 = .ok (.invokevirtual 139, 3) := by decide +kernel
theorem dL_utilization_7 : decode cL_utilization 7 = .ok (.f2d, 1) := by decide +kernel
theorem dL_utilization_8 : decode cL_utilization 8 = .ok (.dastore, 1) := by decide +kernel
theorem dL_utilization_9 : decode cL_utilization 9 = .ok (.goto 9, 3) := by decide +kernel
theorem dL_utilization_12 : decode cL_utilization 12 = .ok (.astore_n 3, 1) := by decide +kernel
theorem dL_utilization_13 : decode cL_utilization 13 = .ok (.iconst 1, 1) := by decide +kernel
theorem dL_utilization_14 : decode cL_utilization 14 = .ok (.ireturn, 1) := by decide +kernel
theorem dL_utilization_15 : decode cL_utilization 15 = .ok (.astore_n 3, 1) := by decide +kernel
theorem dL_utilization_16 : decode cL_utilization 16 = .ok (.iconst 2, 1) := by decide +kernel
theorem dL_utilization_17 : decode cL_utilization 17 = .ok (.ireturn, 1) := by decide +kernel
theorem dL_utilization_18 : decode cL_utilization 18 = .ok (.iconst 0, 1) := by decide +kernel
theorem dL_utilization_19 : decode cL_utilization 19 = .ok (.ireturn, 1) := by decide +kernel
theorem dL_renderTask_0 : decode cL_renderTask 0 = .ok (.aload_n 2, 1) := by decide +kernel
theorem dL_renderTask_1 : decode cL_renderTask 1 = .ok (.iconst 0, 1) := by decide +kernel
theorem dL_renderTask_2 : decode cL_renderTask 2 = .ok (.aload_n 0, 1) := by decide +kernel
theorem dL_renderTask_3 : decode cL_renderTask 3 = .ok (.iload_n 1, 1) := by decide +kernel
theorem dL_renderTask_4 : decode cL_renderTask 4 = .ok (.invokevirtual 143, 3) := by decide +kernel
theorem dL_renderTask_7 : decode cL_renderTask 7 = .ok (.i2l, 1) := by decide +kernel
theorem dL_renderTask_8 : decode cL_renderTask 8 = .ok (.lastore, 1) := by decide +kernel
theorem dL_renderTask_9 : decode cL_renderTask 9 = .ok (.goto 6, 3) := by decide +kernel
theorem dL_renderTask_12 : decode cL_renderTask 12 = .ok (.astore_n 3, 1) := by decide +kernel
theorem dL_renderTask_13 : decode cL_renderTask 13 = .ok (.iconst 1, 1) := by decide +kernel
theorem dL_renderTask_14 : decode cL_renderTask 14 = .ok (.ireturn, 1) := by decide +kernel
theorem dL_renderTask_15 : decode cL_renderTask 15 = .ok (.iconst 0, 1) := by decide +kernel
theorem dL_renderTask_16 : decode cL_renderTask 16 = .ok (.ireturn, 1) := by decide +kernel
theorem dL_renderUsage_0 : decode cL_renderUsage 0 = .ok (.aload_n 2, 1) := by decide +kernel
theorem dL_renderUsage_1 : decode cL_renderUsage 1 = .ok (.iconst 0, 1) := by decide +kernel
theorem dL_renderUsage_2 : decode cL_renderUsage 2 = .ok (.aload_n 0, 1) := by decide +kernel
theorem dL_renderUsage_3 : decode cL_renderUsage 3 = .ok (.iload_n 1, 1) := by decide +kernel
theorem dL_renderUsage_4 : decode cL_renderUsage 4 = .ok (.invokevirtual 146, 3) := by decide +kernel
theorem dL_renderUsage_7 : decode cL_renderUsage 7 = .ok (.i2l, 1) := by decide +kernel
theorem dL_renderUsage_8 : decode cL_renderUsage 8 = .ok (.lastore, 1) := by decide +kernel
theorem dL_renderUsage_9 : decode cL_renderUsage 9 = .ok (.goto 6, 3) := by decide +kernel
theorem dL_renderUsage_12 : decode cL_renderUsage 12 = .ok (.astore_n 3, 1) := by decide +kernel
theorem dL_renderUsage_13 : decode cL_renderUsage 13 = .ok (.iconst 1, 1) := by decide +kernel
theorem dL_renderUsage_14 : decode cL_renderUsage 14 = .ok (.ireturn, 1) := by decide +kernel
theorem dL_renderUsage_15 : decode cL_renderUsage 15 = .ok (.iconst 0, 1) := by decide +kernel
theorem dL_renderUsage_16 : decode cL_renderUsage 16 = .ok (.ireturn, 1) := by decide +kernel
theorem dL_outputAt_0 : decode cL_outputAt 0 = .ok (.aload_n 2, 1) := by decide +kernel
theorem dL_outputAt_1 : decode cL_outputAt 1 = .ok (.iconst 0, 1) := by decide +kernel
theorem dL_outputAt_2 : decode cL_outputAt 2 = .ok (.aload_n 0, 1) := by decide +kernel
theorem dL_outputAt_3 : decode cL_outputAt 3 = .ok (.iload_n 1, 1) := by decide +kernel
theorem dL_outputAt_4 : decode cL_outputAt 4 = .ok (.invokevirtual 149, 3) := by decide +kernel
theorem dL_outputAt_7 : decode cL_outputAt 7 = .ok (.i2l, 1) := by decide +kernel
theorem dL_outputAt_8 : decode cL_outputAt 8 = .ok (.lastore, 1) := by decide +kernel
theorem dL_outputAt_9 : decode cL_outputAt 9 = .ok (.goto 6, 3) := by decide +kernel
theorem dL_outputAt_12 : decode cL_outputAt 12 = .ok (.astore_n 3, 1) := by decide +kernel
theorem dL_outputAt_13 : decode cL_outputAt 13 = .ok (.iconst 1, 1) := by decide +kernel
theorem dL_outputAt_14 : decode cL_outputAt 14 = .ok (.ireturn, 1) := by decide +kernel
theorem dL_outputAt_15 : decode cL_outputAt 15 = .ok (.iconst 0, 1) := by decide +kernel
theorem dL_outputAt_16 : decode cL_outputAt 16 = .ok (.ireturn, 1) := by decide +kernel
theorem dL_type_0 : decode cL_type 0 = .ok (.aload_n 2, 1) := by decide +kernel
theorem dL_type_1 : decode cL_type 1 = .ok (.iconst 0, 1) := by decide +kernel
theorem dL_type_2 : decode cL_type 2 = .ok (.aload_n 0, 1) := by decide +kernel
theorem dL_type_3 : decode cL_type 3 = .ok (.iload_n 1, 1) := by decide +kernel
theorem dL_type_4 : decode cL_type 4 = .ok (.invokevirtual 153, 3) := by decide +kernel
theorem dL_type_7 : decode cL_type 7 = .ok (.i2l, 1) := by decide +kernel
theorem dL_type_8 : decode cL_type 8 = .ok (.lastore, 1) := by decide +kernel
theorem dL_type_9 : decode cL_type 9 = .ok (.goto 9, 3) := by decide +kernel
theorem dL_type_12 : decode cL_type 12 = .ok (.astore_n 3, 1) := by decide +kernel
theorem dL_type_13 : decode cL_type 13 = .ok (.iconst 1, 1) := by decide +kernel
theorem dL_type_14 : decode cL_type 14 = .ok (.ireturn, 1) := by decide +kernel
theorem dL_type_15 : decode cL_type 15 = .ok (.astore_n 3, 1) := by decide +kernel
theorem dL_type_16 : decode cL_type 16 = .ok (.iconst 2, 1) := by decide +kernel
theorem dL_type_17 : decode cL_type 17 = .ok (.ireturn, 1) := by decide +kernel
theorem dL_type_18 : decode cL_type 18 = .ok (.iconst 0, 1) := by decide +kernel
theorem dL_type_19 : decode cL_type 19 = .ok (.ireturn, 1) := by decide +kernel
theorem dL_runScript_0 : decode cL_runScript 0 = .ok (.aload_n 1, 1) := by decide +kernel
theorem dL_runScript_1 : decode cL_runScript 1 = .ok (.iconst 0, 1) := by decide +kernel
theorem dL_runScript_2 : decode cL_runScript 2 = .ok (.aload_n 0, 1) := by decide +kernel
theorem dL_runScript_3 : decode cL_runScript 3 = .ok (.invokevirtual 157, 3) := by decide +kernel
theorem dL_runScript_6 : decode cL_runScript 6 = .ok (.i2l, 1) := by decide +kernel
theorem dL_runScript_7 : decode cL_runScript 7 = .ok (.lastore, 1) := by decide +kernel
theorem dL_runScript_8 : decode cL_runScript 8 = .ok (.goto 9, 3) := by decide +kernel
theorem dL_runScript_11 : decode cL_runScript 11 = .ok (.astore_n 2, 1) := by decide +kernel
theorem dL_runScript_12 : decode cL_runScript 12 = .ok (.iconst 1, 1) := by decide +kernel
theorem dL_runScript_13 : decode cL_runScript 13 = .ok (.ireturn, 1) := by decide +kernel
theorem dL_runScript_14 : decode cL_runScript 14 = .ok (.astore_n 2, 1) := by decide +kernel
theorem dL_runScript_15 : decode cL_runScript 15 = .ok (.iconst 2, 1) := by decide +kernel
theorem dL_runScript_16 : decode cL_runScript 16 = .ok (.ireturn, 1) := by decide +kernel
theorem dL_runScript_17 : decode cL_runScript 17 = .ok (.iconst 0, 1) := by decide +kernel
theorem dL_runScript_18 : decode cL_runScript 18 = .ok (.ireturn, 1) := by decide +kernel
theorem dL_errorPosition_0 : decode cL_errorPosition 0 = .ok (.aload_n 1, 1) := by decide +kernel
theorem dL_errorPosition_1 : decode cL_errorPosition 1 = .ok (.iconst 0, 1) := by decide +kernel
theorem dL_errorPosition_2 : decode cL_errorPosition 2 = .ok (.aload_n 0, 1) := by decide +kernel
theorem dL_errorPosition_3 : decode cL_errorPosition 3 = .ok (.invokevirtual 160, 3) := by decide +kernel
theorem dL_errorPosition_6 : decode cL_errorPosition 6 = .ok (.i2l, 1) := by decide +kernel
theorem dL_errorPosition_7 : decode cL_errorPosition 7 = .ok (.lastore, 1) := by decide +kernel
theorem dL_errorPosition_8 : decode cL_errorPosition 8 = .ok (.goto 6, 3) := by decide +kernel
theorem dL_errorPosition_11 : decode cL_errorPosition 11 = .ok (.astore_n 2, 1) := by decide +kernel
theorem dL_errorPosition_12 : decode cL_errorPosition 12 = .ok (.iconst 1, 1) := by decide +kernel
theorem dL_errorPosition_13 : decode cL_errorPosition 13 = .ok (.ireturn, 1) := by decide +kernel
theorem dL_errorPosition_14 : decode cL_errorPosition 14 = .ok (.iconst 0, 1) := by decide +kernel
theorem dL_errorPosition_15 : decode cL_errorPosition 15 = .ok (.ireturn, 1) := by decide +kernel
theorem dL_failedCommand_0 : decode cL_failedCommand 0 = .ok (.aload_n 1, 1) := by decide +kernel
theorem dL_failedCommand_1 : decode cL_failedCommand 1 = .ok (.iconst 0, 1) := by decide +kernel
theorem dL_failedCommand_2 : decode cL_failedCommand 2 = .ok (.aload_n 0, 1) := by decide +kernel
theorem dL_failedCommand_3 : decode cL_failedCommand 3 = .ok (.invokevirtual 163, 3) := by decide +kernel
theorem dL_failedCommand_6 : decode cL_failedCommand 6 = .ok (.i2l, 1) := by decide +kernel
theorem dL_failedCommand_7 : decode cL_failedCommand 7 = .ok (.lastore, 1) := by decide +kernel
theorem dL_failedCommand_8 : decode cL_failedCommand 8 = .ok (.goto 6, 3) := by decide +kernel
theorem dL_failedCommand_11 : decode cL_failedCommand 11 = .ok (.astore_n 2, 1) := by decide +kernel
theorem dL_failedCommand_12 : decode cL_failedCommand 12 = .ok (.iconst 1, 1) := by decide +kernel
theorem dL_failedCommand_13 : decode cL_failedCommand 13 = .ok (.ireturn, 1) := by decide +kernel
theorem dL_failedCommand_14 : decode cL_failedCommand 14 = .ok (.iconst 0, 1) := by decide +kernel
theorem dL_failedCommand_15 : decode cL_failedCommand 15 = .ok (.ireturn, 1) := by decide +kernel
theorem dL_failureReason_0 : decode cL_failureReason 0 = .ok (.aload_n 1, 1) := by decide +kernel
theorem dL_failureReason_1 : decode cL_failureReason 1 = .ok (.iconst 0, 1) := by decide +kernel
theorem dL_failureReason_2 : decode cL_failureReason 2 = .ok (.aload_n 0, 1) := by decide +kernel
theorem dL_failureReason_3 : decode cL_failureReason 3 = .ok (.invokevirtual 166, 3) := by decide +kernel
theorem dL_failureReason_6 : decode cL_failureReason 6 = .ok (.i2l, 1) := by decide +kernel
theorem dL_failureReason_7 : decode cL_failureReason 7 = .ok (.lastore, 1) := by decide +kernel
theorem dL_failureReason_8 : decode cL_failureReason 8 = .ok (.goto 6, 3) := by decide +kernel
theorem dL_failureReason_11 : decode cL_failureReason 11 = .ok (.astore_n 2, 1) := by decide +kernel
theorem dL_failureReason_12 : decode cL_failureReason 12 = .ok (.iconst 1, 1) := by decide +kernel
theorem dL_failureReason_13 : decode cL_failureReason 13 = .ok (.ireturn, 1) := by decide +kernel
theorem dL_failureReason_14 : decode cL_failureReason 14 = .ok (.iconst 0, 1) := by decide +kernel
theorem dL_failureReason_15 : decode cL_failureReason 15 = .ok (.ireturn, 1) := by decide +kernel
theorem dL_undo_0 : decode cL_undo 0 = .ok (.aload_n 1, 1) := by decide +kernel
theorem dL_undo_1 : decode cL_undo 1 = .ok (.iconst 0, 1) := by decide +kernel
theorem dL_undo_2 : decode cL_undo 2 = .ok (.aload_n 0, 1) := by decide +kernel
theorem dL_undo_3 : decode cL_undo 3 = .ok (.invokevirtual 170, 3) := by decide +kernel
theorem dL_undo_6 : decode cL_undo 6 = .ok (.i2l, 1) := by decide +kernel
theorem dL_undo_7 : decode cL_undo 7 = .ok (.lastore, 1) := by decide +kernel
theorem dL_undo_8 : decode cL_undo 8 = .ok (.goto 6, 3) := by decide +kernel
theorem dL_undo_11 : decode cL_undo 11 = .ok (.astore_n 2, 1) := by decide +kernel
theorem dL_undo_12 : decode cL_undo 12 = .ok (.iconst 1, 1) := by decide +kernel
theorem dL_undo_13 : decode cL_undo 13 = .ok (.ireturn, 1) := by decide +kernel
theorem dL_undo_14 : decode cL_undo 14 = .ok (.iconst 0, 1) := by decide +kernel
theorem dL_undo_15 : decode cL_undo 15 = .ok (.ireturn, 1) := by decide +kernel
theorem dL_restore_0 : decode cL_restore 0 = .ok (.aload_n 1, 1) := by decide +kernel
theorem dL_restore_1 : decode cL_restore 1 = .ok (.iconst 0, 1) := by decide +kernel
theorem dL_restore_2 : decode cL_restore 2 = .ok (.aload_n 0, 1) := by decide +kernel
theorem dL_restore_3 : decode cL_restore 3 = .ok (.invokevirtual 173, 3) := by decide +kernel
theorem dL_restore_6 : decode cL_restore 6 = .ok (.i2l, 1) := by decide +kernel
theorem dL_restore_7 : decode cL_restore 7 = .ok (.lastore, 1) := by decide +kernel
theorem dL_restore_8 : decode cL_restore 8 = .ok (.goto 6, 3) := by decide +kernel
theorem dL_restore_11 : decode cL_restore 11 = .ok (.astore_n 2, 1) := by decide +kernel
theorem dL_restore_12 : decode cL_restore 12 = .ok (.iconst 1, 1) := by decide +kernel
theorem dL_restore_13 : decode cL_restore 13 = .ok (.ireturn, 1) := by decide +kernel
theorem dL_restore_14 : decode cL_restore 14 = .ok (.iconst 0, 1) := by decide +kernel
theorem dL_restore_15 : decode cL_restore 15 = .ok (.ireturn, 1) := by decide +kernel
