theorem dX7_init_105 : decode cX7_init 105 = .ok (.return_, 1) := by decide +kernel
theorem dX7_addTask_0 : decode cX7_addTask 0 = .ok (.aload_n 0, 1) := by decide +kernel
theorem dX7_addTask_1 : decode cX7_addTask 1 = .ok (.getfield 12, 3) := by decide +kernel
theorem dX7_addTask_4 : decode cX7_addTask 4 = .ok (.iload_n 1, 1) := by decide +kernel
theorem dX7_addTask_5 : decode cX7_addTask 5 = .ok (.iload_n 2, 1) := by decide +kernel
theorem dX7_addTask_6 : decode cX7_addTask 6 = .ok (.iload_n 3, 1) := by decide +kernel
theorem dX7_addTask_7 : decode cX7_addTask 7 = .ok (.iload 4, 2) := by decide +kernel
theorem dX7_addTask_9 : decode cX7_addTask 9 = .ok (.invokevirtual 65, 3) := by decide +kernel
theorem dX7_addTask_12 : decode cX7_addTask 12 = .ok (.invokestatic 69, 3) := by decide +kernel
theorem dX7_addTask_15 : decode cX7_addTask 15 = .ok (.aload_n 0, 1) := by decide +kernel
theorem dX7_addTask_16 : decode cX7_addTask 16 = .ok (.invokevirtual 73, 3) := by decide +kernel
theorem dX7_addTask_19 : decode cX7_addTask 19 = .ok (.aload_n 0, 1) := by decide +kernel
theorem dX7_addTask_20 : decode cX7_addTask 20 = .ok (.getfield 12, 3) := by decide +kernel
theorem dX7_addTask_23 : decode cX7_addTask 23 = .ok (.iload_n 1, 1) := by decide +kernel
theorem dX7_addTask_24 : decode cX7_addTask 24 = .ok (.iload_n 2, 1) := by decide +kernel
theorem dX7_addTask_25 : decode cX7_addTask 25 = .ok (.iload_n 3, 1) := by decide +kernel
theorem dX7_addTask_26 : decode cX7_addTask 26 = .ok (.iload 4, 2) := by decide +kernel
theorem dX7_addTask_28 : decode cX7_addTask 28 = .ok (.invokevirtual 76, 3) := by decide +kernel
theorem dX7_addTask_31 : decode cX7_addTask 31 = .ok (.ireturn, 1) := by decide +kernel
theorem dX7_removeTask_0 : decode cX7_removeTask 0 = .ok (.aload_n 0, 1) := by decide +kernel
theorem dX7_removeTask_1 : decode cX7_removeTask 1 = .ok (.getfield 12, 3) := by decide +kernel
theorem dX7_removeTask_4 : decode cX7_removeTask 4 = .ok (.iload_n 1, 1) := by decide +kernel
theorem dX7_removeTask_5 : decode cX7_removeTask 5 = .ok (.invokevirtual 80, 3) := by decide +kernel
theorem dX7_removeTask_8 : decode cX7_removeTask 8 = .ok (.invokestatic 69, 3) := by decide +kernel
theorem dX7_removeTask_11 : decode cX7_removeTask 11 = .ok (.aload_n 0, 1) := by decide +kernel
theorem dX7_removeTask_12 : decode cX7_removeTask 12 = .ok (.invokevirtual 73, 3) := by decide +kernel
theorem dX7_removeTask_15 : decode cX7_removeTask 15 = .ok (.aload_n 0, 1) := by decide +kernel
theorem dX7_removeTask_16 : decode cX7_removeTask 16 = .ok (.getfield 12, 3) := by decide +kernel
theorem dX7_removeTask_19 : decode cX7_removeTask 19 = .ok (.iload_n 1, 1) := by decide +kernel
theorem dX7_removeTask_20 : decode cX7_removeTask 20 = .ok (.invokevirtual 84, 3) := by decide +kernel
theorem dX7_removeTask_23 : decode cX7_removeTask 23 = .ok (.aload_n 0, 1) := by decide +kernel
theorem dX7_removeTask_24 : decode cX7_removeTask 24 = .ok (.getfield 12, 3) := by decide +kernel
theorem dX7_removeTask_27 : decode cX7_removeTask 27 = .ok (.getfield 88, 3) := by decide +kernel
theorem dX7_removeTask_30 : decode cX7_removeTask 30 = .ok (.ireturn, 1) := by decide +kernel
theorem dX7_addDependency_0 : decode cX7_addDependency 0 = .ok (.aload_n 0, 1) := by decide +kernel
theorem dX7_addDependency_1 : decode cX7_addDependency 1 = .ok (.getfield 12, 3) := by decide +kernel
theorem dX7_addDependency_4 : decode cX7_addDependency 4 = .ok (.iload_n 1, 1) := by decide +kernel
theorem dX7_addDependency_5 : decode cX7_addDependency 5 = .ok (.iload_n 2, 1) := by decide +kernel
theorem dX7_addDependency_6 : decode cX7_addDependency 6 = .ok (.invokevirtual 91, 3) := by decide +kernel
theorem dX7_addDependency_9 : decode cX7_addDependency 9 = .ok (.invokestatic 69, 3) := by decide +kernel
theorem dX7_addDependency_12 : decode cX7_addDependency 12 = .ok (.aload_n 0, 1) := by decide +kernel
theorem dX7_addDependency_13 : decode cX7_addDependency 13 = .ok (.invokevirtual 73, 3) := by decide +kernel
theorem dX7_addDependency_16 : decode cX7_addDependency 16 = .ok (.aload_n 0, 1) := by decide +kernel
theorem dX7_addDependency_17 : decode cX7_addDependency 17 = .ok (.getfield 12, 3) := by decide +kernel
theorem dX7_addDependency_20 : decode cX7_addDependency 20 = .ok (.iload_n 1, 1) := by decide +kernel
theorem dX7_addDependency_21 : decode cX7_addDependency 21 = .ok (.iload_n 2, 1) := by decide +kernel
theorem dX7_addDependency_22 : decode cX7_addDependency 22 = .ok (.invokevirtual 95, 3) := by decide +kernel
theorem dX7_addDependency_25 : decode cX7_addDependency 25 = .ok (.ifCond .ne 7, 3) := by decide +kernel
theorem dX7_addDependency_28 : decode cX7_addDependency 28 = .ok (.iconst 1, 1) := by decide +kernel
theorem dX7_addDependency_29 : decode cX7_addDependency 29 = .ok (.goto 4, 3) := by decide +kernel
theorem dX7_addDependency_32 : decode cX7_addDependency 32 = .ok (.iconst 0, 1) := by decide +kernel
theorem dX7_addDependency_33 : decode cX7_addDependency 33 = .ok (.istore_n 3, 1) := by decide +kernel
theorem dX7_addDependency_34 : decode cX7_addDependency 34 = .ok (.aload_n 0, 1) := by decide +kernel
theorem dX7_addDependency_35 : decode cX7_addDependency 35 = .ok (.getfield 12, 3) := by decide +kernel
theorem dX7_addDependency_38 : decode cX7_addDependency 38 = .ok (.iload_n 1, 1) := by decide +kernel
theorem dX7_addDependency_39 : decode cX7_addDependency 39 = .ok (.iload_n 2, 1) := by decide +kernel
theorem dX7_addDependency_40 : decode cX7_addDependency 40 = .ok (.invokevirtual 99, 3) := by decide +kernel
theorem dX7_addDependency_43 : decode cX7_addDependency 43 = .ok (.iload_n 3, 1) := by decide +kernel
theorem dX7_addDependency_44 : decode cX7_addDependency 44 = .ok (.ireturn, 1) := by decide +kernel
theorem dX7_removeDependency_0 : decode cX7_removeDependency 0 = .ok (.aload_n 0, 1) := by decide +kernel
theorem dX7_removeDependency_1 : decode cX7_removeDependency 1 = .ok (.getfield 12, 3) := by decide +kernel
theorem dX7_removeDependency_4 : decode cX7_removeDependency 4 = .ok (.iload_n 1, 1) := by decide +kernel
theorem dX7_removeDependency_5 : decode cX7_removeDependency 5 = .ok (.iload_n 2, 1) := by decide +kernel
theorem dX7_removeDependency_6 : decode cX7_removeDependency 6 = .ok (.invokevirtual 103, 3) := by decide +kernel
theorem dX7_removeDependency_9 : decode cX7_removeDependency 9 = .ok (.invokestatic 69, 3) := by decide +kernel
theorem dX7_removeDependency_12 : decode cX7_removeDependency 12 = .ok (.aload_n 0, 1) := by decide +kernel
theorem dX7_removeDependency_13 : decode cX7_removeDependency 13 = .ok (.invokevirtual 73, 3) := by decide +kernel
theorem dX7_removeDependency_16 : decode cX7_removeDependency 16 = .ok (.aload_n 0, 1) := by decide +kernel
theorem dX7_removeDependency_17 : decode cX7_removeDependency 17 = .ok (.getfield 12, 3) := by decide +kernel
theorem dX7_removeDependency_20 : decode cX7_removeDependency 20 = .ok (.iload_n 1, 1) := by decide +kernel
theorem dX7_removeDependency_21 : decode cX7_removeDependency 21 = .ok (.iload_n 2, 1) := by decide +kernel
theorem dX7_removeDependency_22 : decode cX7_removeDependency 22 = .ok (.invokevirtual 95, 3) := by decide +kernel
theorem dX7_removeDependency_25 : decode cX7_removeDependency 25 = .ok (.istore_n 3, 1) := by decide +kernel
theorem dX7_removeDependency_26 : decode cX7_removeDependency 26 = .ok (.aload_n 0, 1) := by decide +kernel
theorem dX7_removeDependency_27 : decode cX7_removeDependency 27 = .ok (.getfield 12, 3) := by decide +kernel
theorem dX7_removeDependency_30 : decode cX7_removeDependency 30 = .ok (.iload_n 1, 1) := by decide +kernel
theorem dX7_removeDependency_31 : decode cX7_removeDependency 31 = .ok (.iload_n 2, 1) := by decide +kernel
theorem dX7_removeDependency_32 : decode cX7_removeDependency 32 = .ok (.invokevirtual 106, 3) := by decide +kernel
theorem dX7_removeDependency_35 : decode cX7_removeDependency 35 = .ok (.iload_n 3, 1) := by decide +kernel
theorem dX7_removeDependency_36 : decode cX7_removeDependency 36 = .ok (.ireturn, 1) := by decide +kernel
theorem dX7_setDuration_0 : decode cX7_setDuration 0 = .ok (.aload_n 0, 1) := by decide +kernel
theorem dX7_setDuration_1 : decode cX7_setDuration 1 = .ok (.getfield 12, 3) := by decide +kernel
theorem dX7_setDuration_4 : decode cX7_setDuration 4 = .ok (.iload_n 1, 1) := by decide +kernel
theorem dX7_setDuration_5 : decode cX7_setDuration 5 = .ok (.iload_n 2, 1) := by decide +kernel
theorem dX7_setDuration_6 : decode cX7_setDuration 6 = .ok (.invokevirtual 109, 3) := by decide +kernel
theorem dX7_setDuration_9 : decode cX7_setDuration 9 = .ok (.invokestatic 69, 3) := by decide +kernel
theorem dX7_setDuration_12 : decode cX7_setDuration 12 = .ok (.aload_n 0, 1) := by decide +kernel
theorem dX7_setDuration_13 : decode cX7_setDuration 13 = .ok (.invokevirtual 73, 3) := by decide +kernel
theorem dX7_setDuration_16 : decode cX7_setDuration 16 = .ok (.aload_n 0, 1) := by decide +kernel
theorem dX7_setDuration_17 : decode cX7_setDuration 17 = .ok (.getfield 12, 3) := by decide +kernel
theorem dX7_setDuration_20 : decode cX7_setDuration 20 = .ok (.getfield 112, 3) := by decide +kernel
theorem dX7_setDuration_23 : decode cX7_setDuration 23 = .ok (.iload_n 1, 1) := by decide +kernel
theorem dX7_setDuration_24 : decode cX7_setDuration 24 = .ok (.invokestatic 115, 3) := by decide +kernel
theorem dX7_setDuration_27 : decode cX7_setDuration 27 = .ok (.istore_n 3, 1) := by decide +kernel
theorem dX7_setDuration_28 : decode cX7_setDuration 28 = .ok (.aload_n 0, 1) := by decide +kernel
theorem dX7_setDuration_29 : decode cX7_setDuration 29 = .ok (.getfield 12, 3) := by decide +kernel
theorem dX7_setDuration_32 : decode cX7_setDuration 32 = .ok (.getfield 112, 3) := by decide +kernel
theorem dX7_setDuration_35 : decode cX7_setDuration 35 = .ok (.iload_n 1, 1) := by decide +kernel
theorem dX7_setDuration_36 : decode cX7_setDuration 36 = .ok (.iload_n 2, 1) := by decide +kernel
theorem dX7_setDuration_37 : decode cX7_setDuration 37 = .ok (.invokestatic 119, 3) := by decide +kernel
theorem dX7_setDuration_40 : decode cX7_setDuration 40 = .ok (.iload_n 3, 1) := by decide +kernel
theorem dX7_setDuration_41 : decode cX7_setDuration 41 = .ok (.ireturn, 1) := by decide +kernel
theorem dX7_setRelease_0 : decode cX7_setRelease 0 = .ok (.aload_n 0, 1) := by decide +kernel
theorem dX7_setRelease_1 : decode cX7_setRelease 1 = .ok (.getfield 12, 3) := by decide +kernel
theorem dX7_setRelease_4 : decode cX7_setRelease 4 = .ok (.iload_n 1, 1) := by decide +kernel
theorem dX7_setRelease_5 : decode cX7_setRelease 5 = .ok (.iload_n 2, 1) := by decide +kernel
theorem dX7_setRelease_6 : decode cX7_setRelease 6 = .ok (.invokevirtual 123, 3) := by decide +kernel
theorem dX7_setRelease_9 : decode cX7_setRelease 9 = .ok (.invokestatic 69, 3) := by decide +kernel
theorem dX7_setRelease_12 : decode cX7_setRelease 12 = .ok (.aload_n 0, 1) := by decide +kernel
theorem dX7_setRelease_13 : decode cX7_setRelease 13 = .ok (.invokevirtual 73, 3) := by decide +kernel
theorem dX7_setRelease_16 : decode cX7_setRelease 16 = .ok (.aload_n 0, 1) := by decide +kernel
theorem dX7_setRelease_17 : decode cX7_setRelease 17 = .ok (.getfield 12, 3) := by decide +kernel
theorem dX7_setRelease_20 : decode cX7_setRelease 20 = .ok (.getfield 126, 3) := by decide +kernel
theorem dX7_setRelease_23 : decode cX7_setRelease 23 = .ok (.iload_n 1, 1) := by decide +kernel
theorem dX7_setRelease_24 : decode cX7_setRelease 24 = .ok (.invokestatic 115, 3) := by decide +kernel
theorem dX7_setRelease_27 : decode cX7_setRelease 27 = .ok (.istore_n 3, 1) := by decide +kernel
theorem dX7_setRelease_28 : decode cX7_setRelease 28 = .ok (.aload_n 0, 1) := by decide +kernel
theorem dX7_setRelease_29 : decode cX7_setRelease 29 = .ok (.getfield 12, 3) := by decide +kernel
theorem dX7_setRelease_32 : decode cX7_setRelease 32 = .ok (.getfield 126, 3) := by decide +kernel
theorem dX7_setRelease_35 : decode cX7_setRelease 35 = .ok (.iload_n 1, 1) := by decide +kernel
theorem dX7_setRelease_36 : decode cX7_setRelease 36 = .ok (.iload_n 2, 1) := by decide +kernel
theorem dX7_setRelease_37 : decode cX7_setRelease 37 = .ok (.invokestatic 119, 3) := by decide +kernel
theorem dX7_setRelease_40 : decode cX7_setRelease 40 = .ok (.iload_n 3, 1) := by decide +kernel
theorem dX7_setRelease_41 : decode cX7_setRelease 41 = .ok (.ireturn, 1) := by decide +kernel
theorem dX7_setLimit_0 : decode cX7_setLimit 0 = .ok (.aload_n 0, 1) := by decide +kernel
theorem dX7_setLimit_1 : decode cX7_setLimit 1 = .ok (.getfield 12, 3) := by decide +kernel
theorem dX7_setLimit_4 : decode cX7_setLimit 4 = .ok (.iload_n 1, 1) := by decide +kernel
theorem dX7_setLimit_5 : decode cX7_setLimit 5 = .ok (.iload_n 2, 1) := by decide +kernel
theorem dX7_setLimit_6 : decode cX7_setLimit 6 = .ok (.invokevirtual 129, 3) := by decide +kernel
theorem dX7_setLimit_9 : decode cX7_setLimit 9 = .ok (.invokestatic 69, 3) := by decide +kernel
theorem dX7_setLimit_12 : decode cX7_setLimit 12 = .ok (.aload_n 0, 1) := by decide +kernel
theorem dX7_setLimit_13 : decode cX7_setLimit 13 = .ok (.invokevirtual 73, 3) := by decide +kernel
theorem dX7_setLimit_16 : decode cX7_setLimit 16 = .ok (.aload_n 0, 1) := by decide +kernel
theorem dX7_setLimit_17 : decode cX7_setLimit 17 = .ok (.getfield 12, 3) := by decide +kernel
theorem dX7_setLimit_20 : decode cX7_setLimit 20 = .ok (.getfield 132, 3) := by decide +kernel
theorem dX7_setLimit_23 : decode cX7_setLimit 23 = .ok (.iload_n 1, 1) := by decide +kernel
theorem dX7_setLimit_24 : decode cX7_setLimit 24 = .ok (.invokestatic 115, 3) := by decide +kernel
theorem dX7_setLimit_27 : decode cX7_setLimit 27 = .ok (.istore_n 3, 1) := by decide +kernel
theorem dX7_setLimit_28 : decode cX7_setLimit 28 = .ok (.aload_n 0, 1) := by decide +kernel
theorem dX7_setLimit_29 : decode cX7_setLimit 29 = .ok (.getfield 12, 3) := by decide +kernel
theorem dX7_setLimit_32 : decode cX7_setLimit 32 = .ok (.getfield 132, 3) := by decide +kernel
theorem dX7_setLimit_35 : decode cX7_setLimit 35 = .ok (.iload_n 1, 1) := by decide +kernel
theorem dX7_setLimit_36 : decode cX7_setLimit 36 = .ok (.iload_n 2, 1) := by decide +kernel
theorem dX7_setLimit_37 : decode cX7_setLimit 37 = .ok (.invokestatic 119, 3) := by decide +kernel
theorem dX7_setLimit_40 : decode cX7_setLimit 40 = .ok (.iload_n 3, 1) := by decide +kernel
theorem dX7_setLimit_41 : decode cX7_setLimit 41 = .ok (.ireturn, 1) := by decide +kernel
theorem dX7_takeBaseline_0 : decode cX7_takeBaseline 0 = .ok (.aload_n 0, 1) := by decide +kernel
theorem dX7_takeBaseline_1 : decode cX7_takeBaseline 1 = .ok (.invokevirtual 73, 3) := by decide +kernel
theorem dX7_takeBaseline_4 : decode cX7_takeBaseline 4 = .ok (.aload_n 0, 1) := by decide +kernel
theorem dX7_takeBaseline_5 : decode cX7_takeBaseline 5 = .ok (.invokevirtual 135, 3) := by decide +kernel
theorem dX7_takeBaseline_8 : decode cX7_takeBaseline 8 = .ok (.astore_n 1, 1) := by decide +kernel
theorem dX7_takeBaseline_9 : decode cX7_takeBaseline 9 = .ok (.aload_n 0, 1) := by decide +kernel
theorem dX7_takeBaseline_10 : decode cX7_takeBaseline 10 = .ok (.getfield 12, 3) := by decide +kernel
theorem dX7_takeBaseline_13 : decode cX7_takeBaseline 13 = .ok (.aload_n 1, 1) := by decide +kernel
theorem dX7_takeBaseline_14 : decode cX7_takeBaseline 14 = .ok (.getfield 139, 3) := by decide +kernel
theorem dX7_takeBaseline_17 : decode cX7_takeBaseline 17 = .ok (.invokevirtual 142, 3) := by decide +kernel
theorem dX7_takeBaseline_20 : decode cX7_takeBaseline 20 = .ok (.aload_n 1, 1) := by decide +kernel
theorem dX7_takeBaseline_21 : decode cX7_takeBaseline 21 = .ok (.getfield 146, 3) := by decide +kernel
theorem dX7_takeBaseline_24 : decode cX7_takeBaseline 24 = .ok (.ireturn, 1) := by decide +kernel
theorem dX7_taskCount_0 : decode cX7_taskCount 0 = .ok (.aload_n 0, 1) := by decide +kernel
theorem dX7_taskCount_1 : decode cX7_taskCount 1 = .ok (.getfield 12, 3) := by decide +kernel
theorem dX7_taskCount_4 : decode cX7_taskCount 4 = .ok (.getfield 88, 3) := by decide +kernel
theorem dX7_taskCount_7 : decode cX7_taskCount 7 = .ok (.ireturn, 1) := by decide +kernel
theorem dX7_duration_0 : decode cX7_duration 0 = .ok (.aload_n 0, 1) := by decide +kernel
theorem dX7_duration_1 : decode cX7_duration 1 = .ok (.iload_n 1, 1) := by decide +kernel
theorem dX7_duration_2 : decode cX7_duration 2 = .ok (.invokevirtual 149, 3) := by decide +kernel
theorem dX7_duration_5 : decode cX7_duration 5 = .ok (.aload_n 0, 1) := by decide +kernel
theorem dX7_duration_6 : decode cX7_duration 6 = .ok (.getfield 12, 3) := by decide +kernel
theorem dX7_duration_9 : decode cX7_duration 9 = .ok (.getfield 112, 3) := by decide +kernel
theorem dX7_duration_12 : decode cX7_duration 12 = .ok (.iload_n 1, 1) := by decide +kernel
theorem dX7_duration_13 : decode cX7_duration 13 = .ok (.invokestatic 115, 3) := by decide +kernel
theorem dX7_duration_16 : decode cX7_duration 16 = .ok (.ireturn, 1) := by decide +kernel
theorem dX7_resource_0 : decode cX7_resource 0 = .ok (.aload_n 0, 1) := by decide +kernel
theorem dX7_resource_1 : decode cX7_resource 1 = .ok (.iload_n 1, 1) := by decide +kernel
theorem dX7_resource_2 : decode cX7_resource 2 = .ok (.invokevirtual 149, 3) := by decide +kernel
theorem dX7_resource_5 : decode cX7_resource 5 = .ok (.aload_n 0, 1) := by decide +kernel
theorem dX7_resource_6 : decode cX7_resource 6 = .ok (.getfield 12, 3) := by decide +kernel
theorem dX7_resource_9 : decode cX7_resource 9 = .ok (.getfield 152, 3) := by decide +kernel
theorem dX7_resource_12 : decode cX7_resource 12 = .ok (.iload_n 1, 1) := by decide +kernel
theorem dX7_resource_13 : decode cX7_resource 13 = .ok (.invokestatic 115, 3) := by decide +kernel
theorem dX7_resource_16 : decode cX7_resource 16 = .ok (.ireturn, 1) := by decide +kernel
theorem dX7_demand_0 : decode cX7_demand 0 = .ok (.aload_n 0, 1) := by decide +kernel
theorem dX7_demand_1 : decode cX7_demand 1 = .ok (.iload_n 1, 1) := by decide +kernel
theorem dX7_demand_2 : decode cX7_demand 2 = .ok (.invokevirtual 149, 3) := by decide +kernel
theorem dX7_demand_5 : decode cX7_demand 5 = .ok (.aload_n 0, 1) := by decide +kernel
theorem dX7_demand_6 : decode cX7_demand 6 = .ok (.getfield 12, 3) := by decide +kernel
theorem dX7_demand_9 : decode cX7_demand 9 = .ok (.getfield 155, 3) := by decide +kernel
theorem dX7_demand_12 : decode cX7_demand 12 = .ok (.iload_n 1, 1) := by decide +kernel
theorem dX7_demand_13 : decode cX7_demand 13 = .ok (.invokestatic 115, 3) := by decide +kernel
theorem dX7_demand_16 : decode cX7_demand 16 = .ok (.ireturn, 1) := by decide +kernel
theorem dX7_release_0 : decode cX7_release 0 = .ok (.aload_n 0, 1) := by decide +kernel
theorem dX7_release_1 : decode cX7_release 1 = .ok (.iload_n 1, 1) := by decide +kernel
theorem dX7_release_2 : decode cX7_release 2 = .ok (.invokevirtual 149, 3) := by decide +kernel
theorem dX7_release_5 : decode cX7_release 5 = .ok (.aload_n 0, 1) := by decide +kernel
theorem dX7_release_6 : decode cX7_release 6 = .ok (.getfield 12, 3) := by decide +kernel
theorem dX7_release_9 : decode cX7_release 9 = .ok (.getfield 126, 3) := by decide +kernel
theorem dX7_release_12 : decode cX7_release 12 = .ok (.iload_n 1, 1) := by decide +kernel
theorem dX7_release_13 : decode cX7_release 13 = .ok (.invokestatic 115, 3) := by decide +kernel
theorem dX7_release_16 : decode cX7_release 16 = .ok (.ireturn, 1) := by decide +kernel
theorem dX7_limit_0 : decode cX7_limit 0 = .ok (.iload_n 1, 1) := by decide +kernel
theorem dX7_limit_1 : decode cX7_limit 1 = .ok (.invokestatic 158, 3) := by decide +kernel
theorem dX7_limit_4 : decode cX7_limit 4 = .ok (.aload_n 0, 1) := by decide +kernel
theorem dX7_limit_5 : decode cX7_limit 5 = .ok (.getfield 12, 3) := by decide +kernel
theorem dX7_limit_8 : decode cX7_limit 8 = .ok (.getfield 132, 3) := by decide +kernel
theorem dX7_limit_11 : decode cX7_limit 11 = .ok (.iload_n 1, 1) := by decide +kernel
theorem dX7_limit_12 : decode cX7_limit 12 = .ok (.invokestatic 115, 3) := by decide +kernel
theorem dX7_limit_15 : decode cX7_limit 15 = .ok (.ireturn, 1) := by decide +kernel
theorem dX7_dependsDirectly_0 : decode cX7_dependsDirectly 0 = .ok (.aload_n 0, 1) := by decide +kernel
theorem dX7_dependsDirectly_1 : decode cX7_dependsDirectly 1 = .ok (.iload_n 1, 1) := by decide +kernel
theorem dX7_dependsDirectly_2 : decode cX7_dependsDirectly 2 = .ok (.invokevirtual 149, 3) := by decide +kernel
theorem dX7_dependsDirectly_5 : decode cX7_dependsDirectly 5 = .ok (.aload_n 0, 1) := by decide +kernel
theorem dX7_dependsDirectly_6 : decode cX7_dependsDirectly 6 = .ok (.iload_n 2, 1) := by decide +kernel
theorem dX7_dependsDirectly_7 : decode cX7_dependsDirectly 7 = .ok (.invokevirtual 149, 3) := by decide +kernel
theorem dX7_dependsDirectly_10 : decode cX7_dependsDirectly 10 = .ok (.aload_n 0, 1) := by decide +kernel
theorem dX7_dependsDirectly_11 : decode cX7_dependsDirectly 11 = .ok (.getfield 12, 3) := by decide +kernel
theorem dX7_dependsDirectly_14 : decode cX7_dependsDirectly 14 = .ok (.iload_n 1, 1) := by decide +kernel
theorem dX7_dependsDirectly_15 : decode cX7_dependsDirectly 15 = .ok (.iload_n 2, 1) := by decide +kernel
theorem dX7_dependsDirectly_16 : decode cX7_dependsDirectly 16 = .ok (.invokevirtual 95, 3) := by decide +kernel
theorem dX7_dependsDirectly_19 : decode cX7_dependsDirectly 19 = .ok (.ireturn, 1) := by decide +kernel
theorem dX7_depends_0 : decode cX7_depends 0 = .ok (.aload_n 0, 1) := by decide +kernel
theorem dX7_depends_1 : decode cX7_depends 1 = .ok (.iload_n 1, 1) := by decide +kernel
theorem dX7_depends_2 : decode cX7_depends 2 = .ok (.invokevirtual 149, 3) := by decide +kernel
theorem dX7_depends_5 : decode cX7_depends 5 = .ok (.aload_n 0, 1) := by decide +kernel
theorem dX7_depends_6 : decode cX7_depends 6 = .ok (.iload_n 2, 1) := by decide +kernel
theorem dX7_depends_7 : decode cX7_depends 7 = .ok (.invokevirtual 149, 3) := by decide +kernel
theorem dX7_depends_10 : decode cX7_depends 10 = .ok (.aload_n 0, 1) := by decide +kernel
theorem dX7_depends_11 : decode cX7_depends 11 = .ok (.getfield 12, 3) := by decide +kernel
theorem dX7_depends_14 : decode cX7_depends 14 = .ok (.iload_n 1, 1) := by decide +kernel
theorem dX7_depends_15 : decode cX7_depends 15 = .ok (.iload_n 2, 1) := by decide +kernel
theorem dX7_depends_16 : decode cX7_depends 16 = .ok (.invokevirtual 161, 3) := by decide +kernel
theorem dX7_depends_19 : decode cX7_depends 19 = .ok (.ireturn, 1) := by decide +kernel
theorem dX7_dependsByClosure_0 : decode cX7_dependsByClosure 0 = .ok (.aload_n 0, 1) := by decide +kernel
theorem dX7_dependsByClosure_1 : decode cX7_dependsByClosure 1 = .ok (.iload_n 1, 1) := by decide +kernel
theorem dX7_dependsByClosure_2 : decode cX7_dependsByClosure 2 = .ok (.invokevirtual 149, 3) := by decide +kernel
theorem dX7_dependsByClosure_5 : decode cX7_dependsByClosure 5 = .ok (.aload_n 0, 1) := by decide +kernel
theorem dX7_dependsByClosure_6 : decode cX7_dependsByClosure 6 = .ok (.iload_n 2, 1) := by decide +kernel
theorem dX7_dependsByClosure_7 : decode cX7_dependsByClosure 7 = .ok (.invokevirtual 149, 3) := by decide +kernel
theorem dX7_dependsByClosure_10 : decode cX7_dependsByClosure 10 = .ok (.aload_n 0, 1) := by decide +kernel
theorem dX7_dependsByClosure_11 : decode cX7_dependsByClosure 11 = .ok (.invokevirtual 135, 3) := by decide +kernel
theorem dX7_dependsByClosure_14 : decode cX7_dependsByClosure 14 = .ok (.getfield 164, 3) := by decide +kernel
theorem dX7_dependsByClosure_17 : decode cX7_dependsByClosure 17 = .ok (.iload_n 1, 1) := by decide +kernel
theorem dX7_dependsByClosure_18 : decode cX7_dependsByClosure 18 = .ok (.invokestatic 115, 3) := by decide +kernel
theorem dX7_dependsByClosure_21 : decode cX7_dependsByClosure 21 = .ok (.iload_n 2, 1) := by decide +kernel
theorem dX7_dependsByClosure_22 : decode cX7_dependsByClosure 22 = .ok (.invokestatic 167, 3) := by decide +kernel
theorem dX7_dependsByClosure_25 : decode cX7_dependsByClosure 25 = .ok (.ireturn, 1) := by decide +kernel
theorem dX7_neededCount_0 : decode cX7_neededCount 0 = .ok (.aload_n 0, 1) := by decide +kernel
theorem dX7_neededCount_1 : decode cX7_neededCount 1 = .ok (.iload_n 1, 1) := by decide +kernel
theorem dX7_neededCount_2 : decode cX7_neededCount 2 = .ok (.invokevirtual 149, 3) := by decide +kernel
theorem dX7_neededCount_5 : decode cX7_neededCount 5 = .ok (.aload_n 0, 1) := by decide +kernel
theorem dX7_neededCount_6 : decode cX7_neededCount 6 = .ok (.getfield 12, 3) := by decide +kernel
theorem dX7_neededCount_9 : decode cX7_neededCount 9 = .ok (.getfield 170, 3) := by decide +kernel
theorem dX7_neededCount_12 : decode cX7_neededCount 12 = .ok (.iload_n 1, 1) := by decide +kernel
theorem dX7_neededCount_13 : decode cX7_neededCount 13 = .ok (.invokestatic 115, 3) := by decide +kernel
theorem dX7_neededCount_16 : decode cX7_neededCount 16 = .ok (.invokestatic 173, 3) := by decide +kernel
theorem dX7_neededCount_19 : decode cX7_neededCount 19 = .ok (.ireturn, 1) := by decide +kernel
theorem dX7_dependentCount_0 : decode cX7_dependentCount 0 = .ok (.aload_n 0, 1) := by decide +kernel
theorem dX7_dependentCount_1 : decode cX7_dependentCount 1 = .ok (.iload_n 1, 1) := by decide +kernel
theorem dX7_dependentCount_2 : decode cX7_dependentCount 2 = .ok (.invokevirtual 149, 3) := by decide +kernel
theorem dX7_dependentCount_5 : decode cX7_dependentCount 5 = .ok (.iconst 0, 1) := by decide +kernel
theorem dX7_dependentCount_6 : decode cX7_dependentCount 6 = .ok (.istore_n 2, 1) := by decide +kernel
theorem dX7_dependentCount_7 : decode cX7_dependentCount 7 = .ok (.iconst 0, 1) := by decide +kernel
theorem dX7_dependentCount_8 : decode cX7_dependentCount 8 = .ok (.istore_n 3, 1) := by decide +kernel
theorem dX7_dependentCount_9 : decode cX7_dependentCount 9 = .ok (.iload_n 3, 1) := by decide +kernel
theorem dX7_dependentCount_10 : decode cX7_dependentCount 10 = .ok (.aload_n 0, 1) := by decide +kernel
theorem dX7_dependentCount_11 : decode cX7_dependentCount 11 = .ok (.getfield 12, 3) := by decide +kernel
theorem dX7_dependentCount_14 : decode cX7_dependentCount 14 = .ok (.getfield 88, 3) := by decide +kernel
theorem dX7_dependentCount_17 : decode cX7_dependentCount 17 = .ok (.if_icmp .ge 24, 3) := by decide +kernel
theorem dX7_dependentCount_20 : decode cX7_dependentCount 20 = .ok (.aload_n 0, 1) := by decide +kernel
theorem dX7_dependentCount_21 : decode cX7_dependentCount 21 = .ok (.getfield 12, 3) := by decide +kernel
theorem dX7_dependentCount_24 : decode cX7_dependentCount 24 = .ok (.iload_n 3, 1) := by decide +kernel
theorem dX7_dependentCount_25 : decode cX7_dependentCount 25 = .ok (.iload_n 1, 1) := by decide +kernel
theorem dX7_dependentCount_26 : decode cX7_dependentCount 26 = .ok (.invokevirtual 95, 3) := by decide +kernel
theorem dX7_dependentCount_29 : decode cX7_dependentCount 29 = .ok (.ifCond .eq 6, 3) := by decide +kernel
theorem dX7_dependentCount_32 : decode cX7_dependentCount 32 = .ok (.iinc 2 1, 3) := by decide +kernel
theorem dX7_dependentCount_35 : decode cX7_dependentCount 35 = .ok (.iinc 3 1, 3) := by decide +kernel
theorem dX7_dependentCount_38 : decode cX7_dependentCount 38 = .ok (.goto (-29), 3) := by decide +kernel
theorem dX7_dependentCount_41 : decode cX7_dependentCount 41 = .ok (.iload_n 2, 1) := by decide +kernel
theorem dX7_dependentCount_42 : decode cX7_dependentCount 42 = .ok (.ireturn, 1) := by decide +kernel
theorem dX7_taskInOrder_0 : decode cX7_taskInOrder 0 = .ok (.iload_n 1, 1) := by decide +kernel
theorem dX7_taskInOrder_1 : decode cX7_taskInOrder 1 = .ok (.iconst 0, 1) := by decide +kernel
theorem dX7_taskInOrder_2 : decode cX7_taskInOrder 2 = .ok (.aload_n 0, 1) := by decide +kernel
theorem dX7_taskInOrder_3 : decode cX7_taskInOrder 3 = .ok (.getfield 12, 3) := by decide +kernel
theorem dX7_taskInOrder_6 : decode cX7_taskInOrder 6 = .ok (.getfield 88, 3) := by decide +kernel
theorem dX7_taskInOrder_9 : decode cX7_taskInOrder 9 = .ok (.iconst 1, 1) := by decide +kernel
theorem dX7_taskInOrder_10 : decode cX7_taskInOrder 10 = .ok (.isub, 1) := by decide +kernel
theorem dX7_taskInOrder_11 : decode cX7_taskInOrder 11 = .ok (.invokestatic 179, 3) := by decide +kernel
theorem dX7_taskInOrder_14 : decode cX7_taskInOrder 14 = .ok (.ifCond .ne 13, 3) := by decide +kernel
theorem dX7_taskInOrder_17 : decode cX7_taskInOrder 17 = .ok (.new 183, 3) := by decide +kernel
theorem dX7_taskInOrder_20 : decode cX7_taskInOrder 20 = .ok (.dup, 1) := by decide +kernel
theorem dX7_taskInOrder_21 : decode cX7_taskInOrder 21 = .ok (.ldc 185, 2) := by decide +kernel
theorem dX7_taskInOrder_23 : decode cX7_taskInOrder 23 = .ok (.invokespecial 187, 3) := by decide +kernel
theorem dX7_taskInOrder_26 : decode cX7_taskInOrder 26 = .ok (.athrow, 1) := by decide +kernel
theorem dX7_taskInOrder_27 : decode cX7_taskInOrder 27 = .ok (.aload_n 0, 1) := by decide +kernel
theorem dX7_taskInOrder_28 : decode cX7_taskInOrder 28 = .ok (.invokevirtual 135, 3) := by decide +kernel
theorem dX7_taskInOrder_31 : decode cX7_taskInOrder 31 = .ok (.getfield 190, 3) := by decide +kernel
theorem dX7_taskInOrder_34 : decode cX7_taskInOrder 34 = .ok (.iload_n 1, 1) := by decide +kernel
theorem dX7_taskInOrder_35 : decode cX7_taskInOrder 35 = .ok (.invokestatic 115, 3) := by decide +kernel
theorem dX7_taskInOrder_38 : decode cX7_taskInOrder 38 = .ok (.ireturn, 1) := by decide +kernel
theorem dX7_earliestStart_0 : decode cX7_earliestStart 0 = .ok (.aload_n 0, 1) := by decide +kernel
theorem dX7_earliestStart_1 : decode cX7_earliestStart 1 = .ok (.iload_n 1, 1) := by decide +kernel
theorem dX7_earliestStart_2 : decode cX7_earliestStart 2 = .ok (.invokevirtual 149, 3) := by decide +kernel
theorem dX7_earliestStart_5 : decode cX7_earliestStart 5 = .ok (.aload_n 0, 1) := by decide +kernel
theorem dX7_earliestStart_6 : decode cX7_earliestStart 6 = .ok (.invokevirtual 135, 3) := by decide +kernel
theorem dX7_earliestStart_9 : decode cX7_earliestStart 9 = .ok (.getfield 193, 3) := by decide +kernel
theorem dX7_earliestStart_12 : decode cX7_earliestStart 12 = .ok (.iload_n 1, 1) := by decide +kernel
theorem dX7_earliestStart_13 : decode cX7_earliestStart 13 = .ok (.invokestatic 115, 3) := by decide +kernel
theorem dX7_earliestStart_16 : decode cX7_earliestStart 16 = .ok (.ireturn, 1) := by decide +kernel
theorem dX7_earliestStartByRounds_0 : decode cX7_earliestStartByRounds 0 = .ok (.aload_n 0, 1) := by decide +kernel
theorem dX7_earliestStartByRounds_1 : decode cX7_earliestStartByRounds 1 = .ok (.iload_n 1, 1) := by decide +kernel
theorem dX7_earliestStartByRounds_2 : decode cX7_earliestStartByRounds 2 = .ok (.invokevirtual 149, 3) := by decide +kernel
theorem dX7_earliestStartByRounds_5 : decode cX7_earliestStartByRounds 5 = .ok (.aload_n 0, 1) := by decide +kernel
theorem dX7_earliestStartByRounds_6 : decode cX7_earliestStartByRounds 6 = .ok (.invokevirtual 135, 3) := by decide +kernel
theorem dX7_earliestStartByRounds_9 : decode cX7_earliestStartByRounds 9 = .ok (.getfield 196, 3) := by decide +kernel
theorem dX7_earliestStartByRounds_12 : decode cX7_earliestStartByRounds 12 = .ok (.iload_n 1, 1) := by decide +kernel
theorem dX7_earliestStartByRounds_13 : decode cX7_earliestStartByRounds 13 = .ok (.invokestatic 115, 3) := by decide +kernel
theorem dX7_earliestStartByRounds_16 : decode cX7_earliestStartByRounds 16 = .ok (.ireturn, 1) := by decide +kernel
theorem dX7_latestStart_0 : decode cX7_latestStart 0 = .ok (.aload_n 0, 1) := by decide +kernel
theorem dX7_latestStart_1 : decode cX7_latestStart 1 = .ok (.iload_n 1, 1) := by decide +kernel
theorem dX7_latestStart_2 : decode cX7_latestStart 2 = .ok (.invokevirtual 149, 3) := by decide +kernel
theorem dX7_latestStart_5 : decode cX7_latestStart 5 = .ok (.aload_n 0, 1) := by decide +kernel
theorem dX7_latestStart_6 : decode cX7_latestStart 6 = .ok (.invokevirtual 135, 3) := by decide +kernel
theorem dX7_latestStart_9 : decode cX7_latestStart 9 = .ok (.getfield 199, 3) := by decide +kernel
theorem dX7_latestStart_12 : decode cX7_latestStart 12 = .ok (.iload_n 1, 1) := by decide +kernel
theorem dX7_latestStart_13 : decode cX7_latestStart 13 = .ok (.invokestatic 115, 3) := by decide +kernel
theorem dX7_latestStart_16 : decode cX7_latestStart 16 = .ok (.ireturn, 1) := by decide +kernel
theorem dX7_slack_0 : decode cX7_slack 0 = .ok (.aload_n 0, 1) := by decide +kernel
theorem dX7_slack_1 : decode cX7_slack 1 = .ok (.iload_n 1, 1) := by decide +kernel
theorem dX7_slack_2 : decode cX7_slack 2 = .ok (.invokevirtual 149, 3) := by decide +kernel
theorem dX7_slack_5 : decode cX7_slack 5 = .ok (.aload_n 0, 1) := by decide +kernel
theorem dX7_slack_6 : decode cX7_slack 6 = .ok (.invokevirtual 135, 3) := by decide +kernel
theorem dX7_slack_9 : decode cX7_slack 9 = .ok (.iload_n 1, 1) := by decide +kernel
theorem dX7_slack_10 : decode cX7_slack 10 = .ok (.invokevirtual 202, 3) := by decide +kernel
theorem dX7_slack_13 : decode cX7_slack 13 = .ok (.ireturn, 1) := by decide +kernel
theorem dX7_isCritical_0 : decode cX7_isCritical 0 = .ok (.aload_n 0, 1) := by decide +kernel
theorem dX7_isCritical_1 : decode cX7_isCritical 1 = .ok (.iload_n 1, 1) := by decide +kernel
theorem dX7_isCritical_2 : decode cX7_isCritical 2 = .ok (.invokevirtual 149, 3) := by decide +kernel
theorem dX7_isCritical_5 : decode cX7_isCritical 5 = .ok (.aload_n 0, 1) := by decide +kernel
theorem dX7_isCritical_6 : decode cX7_isCritical 6 = .ok (.invokevirtual 135, 3) := by decide +kernel
theorem dX7_isCritical_9 : decode cX7_isCritical 9 = .ok (.iload_n 1, 1) := by decide +kernel
theorem dX7_isCritical_10 : decode cX7_isCritical 10 = .ok (.invokevirtual 202, 3) := by decide +kernel
theorem dX7_isCritical_13 : decode cX7_isCritical 13 = .ok (.ifCond .ne 7, 3) := by decide +kernel
theorem dX7_isCritical_16 : decode cX7_isCritical 16 = .ok (.iconst 1, 1) := by decide +kernel
theorem dX7_isCritical_17 : decode cX7_isCritical 17 = .ok (.goto 4, 3) := by decide +kernel
theorem dX7_isCritical_20 : decode cX7_isCritical 20 = .ok (.iconst 0, 1) := by decide +kernel
theorem dX7_isCritical_21 : decode cX7_isCritical 21 = .ok (.ireturn, 1) := by decide +kernel
theorem dX7_projectLength_0 : decode cX7_projectLength 0 = .ok (.aload_n 0, 1) := by decide +kernel
theorem dX7_projectLength_1 : decode cX7_projectLength 1 = .ok (.invokevirtual 135, 3) := by decide +kernel
theorem dX7_projectLength_4 : decode cX7_projectLength 4 = .ok (.getfield 205, 3) := by decide +kernel
theorem dX7_projectLength_7 : decode cX7_projectLength 7 = .ok (.ireturn, 1) := by decide +kernel
theorem dX7_criticalCount_0 : decode cX7_criticalCount 0 = .ok (.aload_n 0, 1) := by decide +kernel
theorem dX7_criticalCount_1 : decode cX7_criticalCount 1 = .ok (.invokevirtual 135, 3) := by decide +kernel
theorem dX7_criticalCount_4 : decode cX7_criticalCount 4 = .ok (.astore_n 1, 1) := by decide +kernel
theorem dX7_criticalCount_5 : decode cX7_criticalCount 5 = .ok (.iconst 0, 1) := by decide +kernel
theorem dX7_criticalCount_6 : decode cX7_criticalCount 6 = .ok (.istore_n 2, 1) := by decide +kernel
theorem dX7_criticalCount_7 : decode cX7_criticalCount 7 = .ok (.iconst 0, 1) := by decide +kernel
theorem dX7_criticalCount_8 : decode cX7_criticalCount 8 = .ok (.istore_n 3, 1) := by decide +kernel
theorem dX7_criticalCount_9 : decode cX7_criticalCount 9 = .ok (.iload_n 3, 1) := by decide +kernel
theorem dX7_criticalCount_10 : decode cX7_criticalCount 10 = .ok (.aload_n 0, 1) := by decide +kernel
theorem dX7_criticalCount_11 : decode cX7_criticalCount 11 = .ok (.getfield 12, 3) := by decide +kernel
theorem dX7_criticalCount_14 : decode cX7_criticalCount 14 = .ok (.getfield 88, 3) := by decide +kernel
theorem dX7_criticalCount_17 : decode cX7_criticalCount 17 = .ok (.if_icmp .ge 20, 3) := by decide +kernel
theorem dX7_criticalCount_20 : decode cX7_criticalCount 20 = .ok (.aload_n 1, 1) := by decide +kernel
theorem dX7_criticalCount_21 : decode cX7_criticalCount 21 = .ok (.iload_n 3, 1) := by decide +kernel
theorem dX7_criticalCount_22 : decode cX7_criticalCount 22 = .ok (.invokevirtual 202, 3) := by decide +kernel
theorem dX7_criticalCount_25 : decode cX7_criticalCount 25 = .ok (.ifCond .ne 6, 3) := by decide +kernel
theorem dX7_criticalCount_28 : decode cX7_criticalCount 28 = .ok (.iinc 2 1, 3) := by decide +kernel
theorem dX7_criticalCount_31 : decode cX7_criticalCount 31 = .ok (.iinc 3 1, 3) := by decide +kernel
theorem dX7_criticalCount_34 : decode cX7_criticalCount 34 = .ok (.goto (-25), 3) := by decide +kernel
theorem dX7_criticalCount_37 : decode cX7_criticalCount 37 = .ok (.iload_n 2, 1) := by decide +kernel
theorem dX7_criticalCount_38 : decode cX7_criticalCount 38 = .ok (.ireturn, 1) := by decide +kernel
theorem dX7_lastTask_0 : decode cX7_lastTask 0 = .ok (.aload_n 0, 1) := by decide +kernel
theorem dX7_lastTask_1 : decode cX7_lastTask 1 = .ok (.invokevirtual 135, 3) := by decide +kernel
theorem dX7_lastTask_4 : decode cX7_lastTask 4 = .ok (.astore_n 1, 1) := by decide +kernel
theorem dX7_lastTask_5 : decode cX7_lastTask 5 = .ok (.iconst 0, 1) := by decide +kernel
theorem dX7_lastTask_6 : decode cX7_lastTask 6 = .ok (.istore_n 2, 1) := by decide +kernel
theorem dX7_lastTask_7 : decode cX7_lastTask 7 = .ok (.iload_n 2, 1) := by decide +kernel
theorem dX7_lastTask_8 : decode cX7_lastTask 8 = .ok (.aload_n 0, 1) := by decide +kernel
theorem dX7_lastTask_9 : decode cX7_lastTask 9 = .ok (.getfield 12, 3) := by decide +kernel
theorem dX7_lastTask_12 : decode cX7_lastTask 12 = .ok (.getfield 88, 3) := by decide +kernel
theorem dX7_lastTask_15 : decode cX7_lastTask 15 = .ok (.if_icmp .ge 38, 3) := by decide +kernel
theorem dX7_lastTask_18 : decode cX7_lastTask 18 = .ok (.aload_n 1, 1) := by decide +kernel
theorem dX7_lastTask_19 : decode cX7_lastTask 19 = .ok (.getfield 193, 3) := by decide +kernel
theorem dX7_lastTask_22 : decode cX7_lastTask 22 = .ok (.iload_n 2, 1) := by decide +kernel
theorem dX7_lastTask_23 : decode cX7_lastTask 23 = .ok (.invokestatic 115, 3) := by decide +kernel
theorem dX7_lastTask_26 : decode cX7_lastTask 26 = .ok (.aload_n 0, 1) := by decide +kernel
theorem dX7_lastTask_27 : decode cX7_lastTask 27 = .ok (.getfield 12, 3) := by decide +kernel
theorem dX7_lastTask_30 : decode cX7_lastTask 30 = .ok (.getfield 112, 3) := by decide +kernel
theorem dX7_lastTask_33 : decode cX7_lastTask 33 = .ok (.iload_n 2, 1) := by decide +kernel
theorem dX7_lastTask_34 : decode cX7_lastTask 34 = .ok (.invokestatic 115, 3) := by decide +kernel
theorem dX7_lastTask_37 : decode cX7_lastTask 37 = .ok (.iadd, 1) := by decide +kernel
theorem dX7_lastTask_38 : decode cX7_lastTask 38 = .ok (.aload_n 1, 1) := by decide +kernel
theorem dX7_lastTask_39 : decode cX7_lastTask 39 = .ok (.getfield 205, 3) := by decide +kernel
theorem dX7_lastTask_42 : decode cX7_lastTask 42 = .ok (.if_icmp .ne 5, 3) := by decide +kernel
theorem dX7_lastTask_45 : decode cX7_lastTask 45 = .ok (.iload_n 2, 1) := by decide +kernel
theorem dX7_lastTask_46 : decode cX7_lastTask 46 = .ok (.ireturn, 1) := by decide +kernel
theorem dX7_lastTask_47 : decode cX7_lastTask 47 = .ok (.iinc 2 1, 3) := by decide +kernel
theorem dX7_lastTask_50 : decode cX7_lastTask 50 = .ok (.goto (-43), 3) := by decide +kernel
theorem dX7_lastTask_53 : decode cX7_lastTask 53 = .ok (.new 183, 3) := by decide +kernel
theorem dX7_lastTask_56 : decode cX7_lastTask 56 = .ok (.dup, 1) := by decide +kernel
theorem dX7_lastTask_57 : decode cX7_lastTask 57 = .ok (.ldc 208, 2) := by decide +kernel
theorem dX7_lastTask_59 : decode cX7_lastTask 59 = .ok (.invokespecial 187, 3) := by decide +kernel
theorem dX7_lastTask_62 : decode cX7_lastTask 62 = .ok (.athrow, 1) := by decide +kernel
theorem dX7_levelledStart_0 : decode cX7_levelledStart 0 = .ok (.aload_n 0, 1) := by decide +kernel
theorem dX7_levelledStart_1 : decode cX7_levelledStart 1 = .ok (.iload_n 1, 1) := by decide +kernel
theorem dX7_levelledStart_2 : decode cX7_levelledStart 2 = .ok (.invokevirtual 149, 3) := by decide +kernel
theorem dX7_levelledStart_5 : decode cX7_levelledStart 5 = .ok (.aload_n 0, 1) := by decide +kernel
theorem dX7_levelledStart_6 : decode cX7_levelledStart 6 = .ok (.invokevirtual 135, 3) := by decide +kernel
theorem dX7_levelledStart_9 : decode cX7_levelledStart 9 = .ok (.getfield 139, 3) := by decide +kernel
theorem dX7_levelledStart_12 : decode cX7_levelledStart 12 = .ok (.iload_n 1, 1) := by decide +kernel
theorem dX7_levelledStart_13 : decode cX7_levelledStart 13 = .ok (.invokestatic 115, 3) := by decide +kernel
theorem dX7_levelledStart_16 : decode cX7_levelledStart 16 = .ok (.ireturn, 1) := by decide +kernel
theorem dX7_levelledLength_0 : decode cX7_levelledLength 0 = .ok (.aload_n 0, 1) := by decide +kernel
theorem dX7_levelledLength_1 : decode cX7_levelledLength 1 = .ok (.invokevirtual 135, 3) := by decide +kernel
theorem dX7_levelledLength_4 : decode cX7_levelledLength 4 = .ok (.getfield 146, 3) := by decide +kernel
theorem dX7_levelledLength_7 : decode cX7_levelledLength 7 = .ok (.ireturn, 1) := by decide +kernel
theorem dX7_usage_0 : decode cX7_usage 0 = .ok (.iload_n 1, 1) := by decide +kernel
theorem dX7_usage_1 : decode cX7_usage 1 = .ok (.invokestatic 158, 3) := by decide +kernel
theorem dX7_usage_4 : decode cX7_usage 4 = .ok (.iload_n 2, 1) := by decide +kernel
theorem dX7_usage_5 : decode cX7_usage 5 = .ok (.invokestatic 210, 3) := by decide +kernel
theorem dX7_usage_8 : decode cX7_usage 8 = .ok (.aload_n 0, 1) := by decide +kernel
theorem dX7_usage_9 : decode cX7_usage 9 = .ok (.invokevirtual 135, 3) := by decide +kernel
theorem dX7_usage_12 : decode cX7_usage 12 = .ok (.iload_n 1, 1) := by decide +kernel
theorem dX7_usage_13 : decode cX7_usage 13 = .ok (.iload_n 2, 1) := by decide +kernel
theorem dX7_usage_14 : decode cX7_usage 14 = .ok (.invokevirtual 213, 3) := by decide +kernel
theorem dX7_usage_17 : decode cX7_usage 17 = .ok (.ireturn, 1) := by decide +kernel
theorem dX7_usageByTasks_0 : decode cX7_usageByTasks 0 = .ok (.iload_n 1, 1) := by decide +kernel
theorem dX7_usageByTasks_1 : decode cX7_usageByTasks 1 = .ok (.invokestatic 158, 3) := by decide +kernel
theorem dX7_usageByTasks_4 : decode cX7_usageByTasks 4 = .ok (.iload_n 2, 1) := by decide +kernel
theorem dX7_usageByTasks_5 : decode cX7_usageByTasks 5 = .ok (.invokestatic 210, 3) := by decide +kernel
theorem dX7_usageByTasks_8 : decode cX7_usageByTasks 8 = .ok (.iconst 0, 1) := by decide +kernel
theorem dX7_usageByTasks_9 : decode cX7_usageByTasks 9 = .ok (.istore_n 3, 1) := by decide +kernel
theorem dX7_usageByTasks_10 : decode cX7_usageByTasks 10 = .ok (.iconst 0, 1) := by decide +kernel
theorem dX7_usageByTasks_11 : decode cX7_usageByTasks 11 = .ok (.istore 4, 2) := by decide +kernel
theorem dX7_usageByTasks_13 : decode cX7_usageByTasks 13 = .ok (.iload 4, 2) := by decide +kernel
theorem dX7_usageByTasks_15 : decode cX7_usageByTasks 15 = .ok (.aload_n 0, 1) := by decide +kernel
theorem dX7_usageByTasks_16 : decode cX7_usageByTasks 16 = .ok (.getfield 12, 3) := by decide +kernel
theorem dX7_usageByTasks_19 : decode cX7_usageByTasks 19 = .ok (.getfield 88, 3) := by decide +kernel
theorem dX7_usageByTasks_22 : decode cX7_usageByTasks 22 = .ok (.if_icmp .ge 50, 3) := by decide +kernel
theorem dX7_usageByTasks_25 : decode cX7_usageByTasks 25 = .ok (.aload_n 0, 1) := by decide +kernel
theorem dX7_usageByTasks_26 : decode cX7_usageByTasks 26 = .ok (.getfield 12, 3) := by decide +kernel
theorem dX7_usageByTasks_29 : decode cX7_usageByTasks 29 = .ok (.getfield 152, 3) := by decide +kernel
theorem dX7_usageByTasks_32 : decode cX7_usageByTasks 32 = .ok (.iload 4, 2) := by decide +kernel
theorem dX7_usageByTasks_34 : decode cX7_usageByTasks 34 = .ok (.invokestatic 115, 3) := by decide +kernel
theorem dX7_usageByTasks_37 : decode cX7_usageByTasks 37 = .ok (.iload_n 1, 1) := by decide +kernel
theorem dX7_usageByTasks_38 : decode cX7_usageByTasks 38 = .ok (.if_icmp .ne 28, 3) := by decide +kernel
theorem dX7_usageByTasks_41 : decode cX7_usageByTasks 41 = .ok (.aload_n 0, 1) := by decide +kernel
theorem dX7_usageByTasks_42 : decode cX7_usageByTasks 42 = .ok (.iload 4, 2) := by decide +kernel
theorem dX7_usageByTasks_44 : decode cX7_usageByTasks 44 = .ok (.iload_n 2, 1) := by decide +kernel
theorem dX7_usageByTasks_45 : decode cX7_usageByTasks 45 = .ok (.invokevirtual 217, 3) := by decide +kernel
theorem dX7_usageByTasks_48 : decode cX7_usageByTasks 48 = .ok (.ifCond .eq 18, 3) := by decide +kernel
theorem dX7_usageByTasks_51 : decode cX7_usageByTasks 51 = .ok (.iload_n 3, 1) := by decide +kernel
theorem dX7_usageByTasks_52 : decode cX7_usageByTasks 52 = .ok (.aload_n 0, 1) := by decide +kernel
theorem dX7_usageByTasks_53 : decode cX7_usageByTasks 53 = .ok (.getfield 12, 3) := by decide +kernel
theorem dX7_usageByTasks_56 : decode cX7_usageByTasks 56 = .ok (.getfield 155, 3) := by decide +kernel
theorem dX7_usageByTasks_59 : decode cX7_usageByTasks 59 = .ok (.iload 4, 2) := by decide +kernel
theorem dX7_usageByTasks_61 : decode cX7_usageByTasks 61 = .ok (.invokestatic 115, 3) := by decide +kernel
theorem dX7_usageByTasks_64 : decode cX7_usageByTasks 64 = .ok (.iadd, 1) := by decide +kernel
theorem dX7_usageByTasks_65 : decode cX7_usageByTasks 65 = .ok (.istore_n 3, 1) := by decide +kernel
theorem dX7_usageByTasks_66 : decode cX7_usageByTasks 66 = .ok (.iinc 4 1, 3) := by decide +kernel
theorem dX7_usageByTasks_69 : decode cX7_usageByTasks 69 = .ok (.goto (-56), 3) := by decide +kernel
theorem dX7_usageByTasks_72 : decode cX7_usageByTasks 72 = .ok (.iload_n 3, 1) := by decide +kernel
theorem dX7_usageByTasks_73 : decode cX7_usageByTasks 73 = .ok (.ireturn, 1) := by decide +kernel
theorem dX7_peakUsage_0 : decode cX7_peakUsage 0 = .ok (.iload_n 1, 1) := by decide +kernel
theorem dX7_peakUsage_1 : decode cX7_peakUsage 1 = .ok (.invokestatic 158, 3) := by decide +kernel
theorem dX7_peakUsage_4 : decode cX7_peakUsage 4 = .ok (.aload_n 0, 1) := by decide +kernel
theorem dX7_peakUsage_5 : decode cX7_peakUsage 5 = .ok (.invokevirtual 135, 3) := by decide +kernel
theorem dX7_peakUsage_8 : decode cX7_peakUsage 8 = .ok (.astore_n 2, 1) := by decide +kernel
theorem dX7_peakUsage_9 : decode cX7_peakUsage 9 = .ok (.iconst 0, 1) := by decide +kernel
theorem dX7_peakUsage_10 : decode cX7_peakUsage 10 = .ok (.istore_n 3, 1) := by decide +kernel
theorem dX7_peakUsage_11 : decode cX7_peakUsage 11 = .ok (.iconst 0, 1) := by decide +kernel
theorem dX7_peakUsage_12 : decode cX7_peakUsage 12 = .ok (.istore 4, 2) := by decide +kernel
theorem dX7_peakUsage_14 : decode cX7_peakUsage 14 = .ok (.iload 4, 2) := by decide +kernel
theorem dX7_peakUsage_16 : decode cX7_peakUsage 16 = .ok (.sipush 138, 3) := by decide +kernel
theorem dX7_peakUsage_19 : decode cX7_peakUsage 19 = .ok (.if_icmp .ge 21, 3) := by decide +kernel
theorem dX7_peakUsage_22 : decode cX7_peakUsage 22 = .ok (.iload_n 3, 1) := by decide +kernel
theorem dX7_peakUsage_23 : decode cX7_peakUsage 23 = .ok (.aload_n 2, 1) := by decide +kernel
theorem dX7_peakUsage_24 : decode cX7_peakUsage 24 = .ok (.iload_n 1, 1) := by decide +kernel
theorem dX7_peakUsage_25 : decode cX7_peakUsage 25 = .ok (.iload 4, 2) := by decide +kernel
theorem dX7_peakUsage_27 : decode cX7_peakUsage 27 = .ok (.invokevirtual 213, 3) := by decide +kernel
theorem dX7_peakUsage_30 : decode cX7_peakUsage 30 = .ok (.invokestatic 220, 3) := by decide +kernel
theorem dX7_peakUsage_33 : decode cX7_peakUsage 33 = .ok (.istore_n 3, 1) := by decide +kernel
theorem dX7_peakUsage_34 : decode cX7_peakUsage 34 = .ok (.iinc 4 1, 3) := by decide +kernel
theorem dX7_peakUsage_37 : decode cX7_peakUsage 37 = .ok (.goto (-23), 3) := by decide +kernel
theorem dX7_peakUsage_40 : decode cX7_peakUsage 40 = .ok (.iload_n 3, 1) := by decide +kernel
theorem dX7_peakUsage_41 : decode cX7_peakUsage 41 = .ok (.ireturn, 1) := by decide +kernel
theorem dX7_tasksOn_0 : decode cX7_tasksOn 0 = .ok (.iload_n 1, 1) := by decide +kernel
theorem dX7_tasksOn_1 : decode cX7_tasksOn 1 = .ok (.invokestatic 210, 3) := by decide +kernel
theorem dX7_tasksOn_4 : decode cX7_tasksOn 4 = .ok (.iconst 0, 1) := by decide +kernel
theorem dX7_tasksOn_5 : decode cX7_tasksOn 5 = .ok (.istore_n 2, 1) := by decide +kernel
theorem dX7_tasksOn_6 : decode cX7_tasksOn 6 = .ok (.iconst 0, 1) := by decide +kernel
theorem dX7_tasksOn_7 : decode cX7_tasksOn 7 = .ok (.istore_n 3, 1) := by decide +kernel
theorem dX7_tasksOn_8 : decode cX7_tasksOn 8 = .ok (.iload_n 3, 1) := by decide +kernel
theorem dX7_tasksOn_9 : decode cX7_tasksOn 9 = .ok (.aload_n 0, 1) := by decide +kernel
theorem dX7_tasksOn_10 : decode cX7_tasksOn 10 = .ok (.getfield 12, 3) := by decide +kernel
theorem dX7_tasksOn_13 : decode cX7_tasksOn 13 = .ok (.getfield 88, 3) := by decide +kernel
theorem dX7_tasksOn_16 : decode cX7_tasksOn 16 = .ok (.if_icmp .ge 21, 3) := by decide +kernel
theorem dX7_tasksOn_19 : decode cX7_tasksOn 19 = .ok (.aload_n 0, 1) := by decide +kernel
theorem dX7_tasksOn_20 : decode cX7_tasksOn 20 = .ok (.iload_n 3, 1) := by decide +kernel
theorem dX7_tasksOn_21 : decode cX7_tasksOn 21 = .ok (.iload_n 1, 1) := by decide +kernel
theorem dX7_tasksOn_22 : decode cX7_tasksOn 22 = .ok (.invokevirtual 217, 3) := by decide +kernel
theorem dX7_tasksOn_25 : decode cX7_tasksOn 25 = .ok (.ifCond .eq 6, 3) := by decide +kernel
theorem dX7_tasksOn_28 : decode cX7_tasksOn 28 = .ok (.iinc 2 1, 3) := by decide +kernel
theorem dX7_tasksOn_31 : decode cX7_tasksOn 31 = .ok (.iinc 3 1, 3) := by decide +kernel
theorem dX7_tasksOn_34 : decode cX7_tasksOn 34 = .ok (.goto (-26), 3) := by decide +kernel
theorem dX7_tasksOn_37 : decode cX7_tasksOn 37 = .ok (.iload_n 2, 1) := by decide +kernel
theorem dX7_tasksOn_38 : decode cX7_tasksOn 38 = .ok (.ireturn, 1) := by decide +kernel
theorem dX7_workload_0 : decode cX7_workload 0 = .ok (.iload_n 1, 1) := by decide +kernel
theorem dX7_workload_1 : decode cX7_workload 1 = .ok (.invokestatic 158, 3) := by decide +kernel
theorem dX7_workload_4 : decode cX7_workload 4 = .ok (.aload_n 0, 1) := by decide +kernel
theorem dX7_workload_5 : decode cX7_workload 5 = .ok (.getfield 12, 3) := by decide +kernel
theorem dX7_workload_8 : decode cX7_workload 8 = .ok (.iload_n 1, 1) := by decide +kernel
theorem dX7_workload_9 : decode cX7_workload 9 = .ok (.invokevirtual 225, 3) := by decide +kernel
theorem dX7_workload_12 : decode cX7_workload 12 = .ok (.ireturn, 1) := by decide +kernel
theorem dX7_workloadByDays_0 : decode cX7_workloadByDays 0 = .ok (.iload_n 1, 1) := by decide +kernel
theorem dX7_workloadByDays_1 : decode cX7_workloadByDays 1 = .ok (.invokestatic 158, 3) := by decide +kernel
theorem dX7_workloadByDays_4 : decode cX7_workloadByDays 4 = .ok (.aload_n 0, 1) := by decide +kernel
theorem dX7_workloadByDays_5 : decode cX7_workloadByDays 5 = .ok (.invokevirtual 135, 3) := by decide +kernel
theorem dX7_workloadByDays_8 : decode cX7_workloadByDays 8 = .ok (.iload_n 1, 1) := by decide +kernel
theorem dX7_workloadByDays_9 : decode cX7_workloadByDays 9 = .ok (.invokevirtual 228, 3) := by decide +kernel
theorem dX7_workloadByDays_12 : decode cX7_workloadByDays 12 = .ok (.ireturn, 1) := by decide +kernel
theorem dX7_hasBaseline_0 : decode cX7_hasBaseline 0 = .ok (.aload_n 0, 1) := by decide +kernel
theorem dX7_hasBaseline_1 : decode cX7_hasBaseline 1 = .ok (.getfield 12, 3) := by decide +kernel
theorem dX7_hasBaseline_4 : decode cX7_hasBaseline 4 = .ok (.getfield 231, 3) := by decide +kernel
theorem dX7_hasBaseline_7 : decode cX7_hasBaseline 7 = .ok (.ireturn, 1) := by decide +kernel
theorem dX7_baselineStart_0 : decode cX7_baselineStart 0 = .ok (.aload_n 0, 1) := by decide +kernel
theorem dX7_baselineStart_1 : decode cX7_baselineStart 1 = .ok (.iload_n 1, 1) := by decide +kernel
theorem dX7_baselineStart_2 : decode cX7_baselineStart 2 = .ok (.invokevirtual 149, 3) := by decide +kernel
theorem dX7_baselineStart_5 : decode cX7_baselineStart 5 = .ok (.aload_n 0, 1) := by decide +kernel
theorem dX7_baselineStart_6 : decode cX7_baselineStart 6 = .ok (.iload_n 1, 1) := by decide +kernel
theorem dX7_baselineStart_7 : decode cX7_baselineStart 7 = .ok (.invokevirtual 235, 3) := by decide +kernel
theorem dX7_baselineStart_10 : decode cX7_baselineStart 10 = .ok (.aload_n 0, 1) := by decide +kernel
theorem dX7_baselineStart_11 : decode cX7_baselineStart 11 = .ok (.getfield 12, 3) := by decide +kernel
theorem dX7_baselineStart_14 : decode cX7_baselineStart 14 = .ok (.getfield 238, 3) := by decide +kernel
theorem dX7_baselineStart_17 : decode cX7_baselineStart 17 = .ok (.iload_n 1, 1) := by decide +kernel
theorem dX7_baselineStart_18 : decode cX7_baselineStart 18 = .ok (.invokestatic 115, 3) := by decide +kernel
theorem dX7_baselineStart_21 : decode cX7_baselineStart 21 = .ok (.ireturn, 1) := by decide +kernel
theorem dX7_drift_0 : decode cX7_drift 0 = .ok (.aload_n 0, 1) := by decide +kernel
theorem dX7_drift_1 : decode cX7_drift 1 = .ok (.iload_n 1, 1) := by decide +kernel
theorem dX7_drift_2 : decode cX7_drift 2 = .ok (.invokevirtual 149, 3) := by decide +kernel
theorem dX7_drift_5 : decode cX7_drift 5 = .ok (.aload_n 0, 1) := by decide +kernel
theorem dX7_drift_6 : decode cX7_drift 6 = .ok (.iload_n 1, 1) := by decide +kernel
theorem dX7_drift_7 : decode cX7_drift 7 = .ok (.invokevirtual 235, 3) := by decide +kernel
theorem dX7_drift_10 : decode cX7_drift 10 = .ok (.aload_n 0, 1) := by decide +kernel
theorem dX7_drift_11 : decode cX7_drift 11 = .ok (.iload_n 1, 1) := by decide +kernel
theorem dX7_drift_12 : decode cX7_drift 12 = .ok (.invokevirtual 241, 3) := by decide +kernel
theorem dX7_drift_15 : decode cX7_drift 15 = .ok (.ireturn, 1) := by decide +kernel
theorem dX7_totalDrift_0 : decode cX7_totalDrift 0 = .ok (.aload_n 0, 1) := by decide +kernel
theorem dX7_totalDrift_1 : decode cX7_totalDrift 1 = .ok (.getfield 12, 3) := by decide +kernel
theorem dX7_totalDrift_4 : decode cX7_totalDrift 4 = .ok (.getfield 231, 3) := by decide +kernel
theorem dX7_totalDrift_7 : decode cX7_totalDrift 7 = .ok (.ifCond .ne 13, 3) := by decide +kernel
theorem dX7_totalDrift_10 : decode cX7_totalDrift 10 = .ok (.new 183, 3) := by decide +kernel
theorem dX7_totalDrift_13 : decode cX7_totalDrift 13 = .ok (.dup, 1) := by decide +kernel
theorem dX7_totalDrift_14 : decode cX7_totalDrift 14 = .ok (.ldc 244, 2) := by decide +kernel
theorem dX7_totalDrift_16 : decode cX7_totalDrift 16 = .ok (.invokespecial 187, 3) := by decide +kernel
theorem dX7_totalDrift_19 : decode cX7_totalDrift 19 = .ok (.athrow, 1) := by decide +kernel
theorem dX7_totalDrift_20 : decode cX7_totalDrift 20 = .ok (.iconst 0, 1) := by decide +kernel
theorem dX7_totalDrift_21 : decode cX7_totalDrift 21 = .ok (.istore_n 1, 1) := by decide +kernel
theorem dX7_totalDrift_22 : decode cX7_totalDrift 22 = .ok (.iconst 0, 1) := by decide +kernel
theorem dX7_totalDrift_23 : decode cX7_totalDrift 23 = .ok (.istore_n 2, 1) := by decide +kernel
theorem dX7_totalDrift_24 : decode cX7_totalDrift 24 = .ok (.iload_n 2, 1) := by decide +kernel
theorem dX7_totalDrift_25 : decode cX7_totalDrift 25 = .ok (.aload_n 0, 1) := by decide +kernel
theorem dX7_totalDrift_26 : decode cX7_totalDrift 26 = .ok (.getfield 12, 3) := by decide +kernel
theorem dX7_totalDrift_29 : decode cX7_totalDrift 29 = .ok (.getfield 88, 3) := by decide +kernel
theorem dX7_totalDrift_32 : decode cX7_totalDrift 32 = .ok (.if_icmp .ge 31, 3) := by decide +kernel
theorem dX7_totalDrift_35 : decode cX7_totalDrift 35 = .ok (.aload_n 0, 1) := by decide +kernel
theorem dX7_totalDrift_36 : decode cX7_totalDrift 36 = .ok (.getfield 12, 3) := by decide +kernel
theorem dX7_totalDrift_39 : decode cX7_totalDrift 39 = .ok (.iload_n 2, 1) := by decide +kernel
theorem dX7_totalDrift_40 : decode cX7_totalDrift 40 = .ok (.invokevirtual 246, 3) := by decide +kernel
theorem dX7_totalDrift_43 : decode cX7_totalDrift 43 = .ok (.ifCond .eq 14, 3) := by decide +kernel
theorem dX7_totalDrift_46 : decode cX7_totalDrift 46 = .ok (.iload_n 1, 1) := by decide +kernel
theorem dX7_totalDrift_47 : decode cX7_totalDrift 47 = .ok (.aload_n 0, 1) := by decide +kernel
theorem dX7_totalDrift_48 : decode cX7_totalDrift 48 = .ok (.iload_n 2, 1) := by decide +kernel
theorem dX7_totalDrift_49 : decode cX7_totalDrift 49 = .ok (.invokevirtual 241, 3) := by decide +kernel
theorem dX7_totalDrift_52 : decode cX7_totalDrift 52 = .ok (.invokestatic 250, 3) := by decide +kernel
theorem dX7_totalDrift_55 : decode cX7_totalDrift 55 = .ok (.iadd, 1) := by decide +kernel
theorem dX7_totalDrift_56 : decode cX7_totalDrift 56 = .ok (.istore_n 1, 1) := by decide +kernel
theorem dX7_totalDrift_57 : decode cX7_totalDrift 57 = .ok (.iinc 2 1, 3) := by decide +kernel
theorem dX7_totalDrift_60 : decode cX7_totalDrift 60 = .ok (.goto (-36), 3) := by decide +kernel
theorem dX7_totalDrift_63 : decode cX7_totalDrift 63 = .ok (.iload_n 1, 1) := by decide +kernel
theorem dX7_totalDrift_64 : decode cX7_totalDrift 64 = .ok (.ireturn, 1) := by decide +kernel
theorem dX7_taskBySlack_0 : decode cX7_taskBySlack 0 = .ok (.aload_n 0, 1) := by decide +kernel
theorem dX7_taskBySlack_1 : decode cX7_taskBySlack 1 = .ok (.invokevirtual 135, 3) := by decide +kernel
theorem dX7_taskBySlack_4 : decode cX7_taskBySlack 4 = .ok (.astore_n 2, 1) := by decide +kernel
theorem dX7_taskBySlack_5 : decode cX7_taskBySlack 5 = .ok (.iconst 0, 1) := by decide +kernel
theorem dX7_taskBySlack_6 : decode cX7_taskBySlack 6 = .ok (.istore_n 3, 1) := by decide +kernel
theorem dX7_taskBySlack_7 : decode cX7_taskBySlack 7 = .ok (.iload_n 3, 1) := by decide +kernel
theorem dX7_taskBySlack_8 : decode cX7_taskBySlack 8 = .ok (.aload_n 0, 1) := by decide +kernel
theorem dX7_taskBySlack_9 : decode cX7_taskBySlack 9 = .ok (.getfield 12, 3) := by decide +kernel
theorem dX7_taskBySlack_12 : decode cX7_taskBySlack 12 = .ok (.getfield 88, 3) := by decide +kernel
theorem dX7_taskBySlack_15 : decode cX7_taskBySlack 15 = .ok (.if_icmp .ge 36, 3) := by decide +kernel
theorem dX7_taskBySlack_18 : decode cX7_taskBySlack 18 = .ok (.aload_n 0, 1) := by decide +kernel
theorem dX7_taskBySlack_19 : decode cX7_taskBySlack 19 = .ok (.getfield 50, 3) := by decide +kernel
theorem dX7_taskBySlack_22 : decode cX7_taskBySlack 22 = .ok (.iload_n 3, 1) := by decide +kernel
theorem dX7_taskBySlack_23 : decode cX7_taskBySlack 23 = .ok (.aload_n 2, 1) := by decide +kernel
theorem dX7_taskBySlack_24 : decode cX7_taskBySlack 24 = .ok (.iload_n 3, 1) := by decide +kernel
theorem dX7_taskBySlack_25 : decode cX7_taskBySlack 25 = .ok (.invokevirtual 202, 3) := by decide +kernel
theorem dX7_taskBySlack_28 : decode cX7_taskBySlack 28 = .ok (.aload_n 0, 1) := by decide +kernel
theorem dX7_taskBySlack_29 : decode cX7_taskBySlack 29 = .ok (.getfield 12, 3) := by decide +kernel
theorem dX7_taskBySlack_32 : decode cX7_taskBySlack 32 = .ok (.getfield 112, 3) := by decide +kernel
theorem dX7_taskBySlack_35 : decode cX7_taskBySlack 35 = .ok (.iload_n 3, 1) := by decide +kernel
theorem dX7_taskBySlack_36 : decode cX7_taskBySlack 36 = .ok (.invokestatic 115, 3) := by decide +kernel
theorem dX7_taskBySlack_39 : decode cX7_taskBySlack 39 = .ok (.invokestatic 253, 3) := by decide +kernel
theorem dX7_taskBySlack_42 : decode cX7_taskBySlack 42 = .ok (.invokestatic 119, 3) := by decide +kernel
theorem dX7_taskBySlack_45 : decode cX7_taskBySlack 45 = .ok (.iinc 3 1, 3) := by decide +kernel
theorem dX7_taskBySlack_48 : decode cX7_taskBySlack 48 = .ok (.goto (-41), 3) := by decide +kernel
theorem dX7_taskBySlack_51 : decode cX7_taskBySlack 51 = .ok (.aload_n 0, 1) := by decide +kernel
theorem dX7_taskBySlack_52 : decode cX7_taskBySlack 52 = .ok (.iload_n 1, 1) := by decide +kernel
theorem dX7_taskBySlack_53 : decode cX7_taskBySlack 53 = .ok (.invokevirtual 256, 3) := by decide +kernel
theorem dX7_taskBySlack_56 : decode cX7_taskBySlack 56 = .ok (.ireturn, 1) := by decide +kernel
theorem dX7_taskByStart_0 : decode cX7_taskByStart 0 = .ok (.aload_n 0, 1) := by decide +kernel
theorem dX7_taskByStart_1 : decode cX7_taskByStart 1 = .ok (.invokevirtual 135, 3) := by decide +kernel
theorem dX7_taskByStart_4 : decode cX7_taskByStart 4 = .ok (.astore_n 2, 1) := by decide +kernel
theorem dX7_taskByStart_5 : decode cX7_taskByStart 5 = .ok (.iconst 0, 1) := by decide +kernel
theorem dX7_taskByStart_6 : decode cX7_taskByStart 6 = .ok (.istore_n 3, 1) := by decide +kernel
theorem dX7_taskByStart_7 : decode cX7_taskByStart 7 = .ok (.iload_n 3, 1) := by decide +kernel
theorem dX7_taskByStart_8 : decode cX7_taskByStart 8 = .ok (.aload_n 0, 1) := by decide +kernel
theorem dX7_taskByStart_9 : decode cX7_taskByStart 9 = .ok (.getfield 12, 3) := by decide +kernel
theorem dX7_taskByStart_12 : decode cX7_taskByStart 12 = .ok (.getfield 88, 3) := by decide +kernel
theorem dX7_taskByStart_15 : decode cX7_taskByStart 15 = .ok (.if_icmp .ge 39, 3) := by decide +kernel
theorem dX7_taskByStart_18 : decode cX7_taskByStart 18 = .ok (.aload_n 0, 1) := by decide +kernel
theorem dX7_taskByStart_19 : decode cX7_taskByStart 19 = .ok (.getfield 50, 3) := by decide +kernel
theorem dX7_taskByStart_22 : decode cX7_taskByStart 22 = .ok (.iload_n 3, 1) := by decide +kernel
theorem dX7_taskByStart_23 : decode cX7_taskByStart 23 = .ok (.aload_n 2, 1) := by decide +kernel
theorem dX7_taskByStart_24 : decode cX7_taskByStart 24 = .ok (.getfield 139, 3) := by decide +kernel
theorem dX7_taskByStart_27 : decode cX7_taskByStart 27 = .ok (.iload_n 3, 1) := by decide +kernel
theorem dX7_taskByStart_28 : decode cX7_taskByStart 28 = .ok (.invokestatic 115, 3) := by decide +kernel
theorem dX7_taskByStart_31 : decode cX7_taskByStart 31 = .ok (.aload_n 0, 1) := by decide +kernel
theorem dX7_taskByStart_32 : decode cX7_taskByStart 32 = .ok (.getfield 12, 3) := by decide +kernel
theorem dX7_taskByStart_35 : decode cX7_taskByStart 35 = .ok (.getfield 155, 3) := by decide +kernel
theorem dX7_taskByStart_38 : decode cX7_taskByStart 38 = .ok (.iload_n 3, 1) := by decide +kernel
theorem dX7_taskByStart_39 : decode cX7_taskByStart 39 = .ok (.invokestatic 115, 3) := by decide +kernel
theorem dX7_taskByStart_42 : decode cX7_taskByStart 42 = .ok (.invokestatic 253, 3) := by decide +kernel
theorem dX7_taskByStart_45 : decode cX7_taskByStart 45 = .ok (.invokestatic 119, 3) := by decide +kernel
theorem dX7_taskByStart_48 : decode cX7_taskByStart 48 = .ok (.iinc 3 1, 3) := by decide +kernel
theorem dX7_taskByStart_51 : decode cX7_taskByStart 51 = .ok (.goto (-44), 3) := by decide +kernel
theorem dX7_taskByStart_54 : decode cX7_taskByStart 54 = .ok (.aload_n 0, 1) := by decide +kernel
theorem dX7_taskByStart_55 : decode cX7_taskByStart 55 = .ok (.iload_n 1, 1) := by decide +kernel
theorem dX7_taskByStart_56 : decode cX7_taskByStart 56 = .ok (.invokevirtual 256, 3) := by decide +kernel
theorem dX7_taskByStart_59 : decode cX7_taskByStart 59 = .ok (.ireturn, 1) := by decide +kernel
theorem dX7_meanSlack_0 : decode cX7_meanSlack 0 = .ok (.aload_n 0, 1) := by decide +kernel
theorem dX7_meanSlack_1 : decode cX7_meanSlack 1 = .ok (.getfield 12, 3) := by decide +kernel
theorem dX7_meanSlack_4 : decode cX7_meanSlack 4 = .ok (.getfield 88, 3) := by decide +kernel
theorem dX7_meanSlack_7 : decode cX7_meanSlack 7 = .ok (.istore_n 1, 1) := by decide +kernel
theorem dX7_meanSlack_8 : decode cX7_meanSlack 8 = .ok (.iload_n 1, 1) := by decide +kernel
theorem dX7_meanSlack_9 : decode cX7_meanSlack 9 = .ok (.ifCond .ne 13, 3) := by decide +kernel
theorem dX7_meanSlack_12 : decode cX7_meanSlack 12 = .ok (.new 259, 3) := by decide +kernel
theorem dX7_meanSlack_15 : decode cX7_meanSlack 15 = .ok (.dup, 1) := by decide +kernel
theorem dX7_meanSlack_16 : decode cX7_meanSlack 16 = .ok (.ldc 208, 2) := by decide +kernel
theorem dX7_meanSlack_18 : decode cX7_meanSlack 18 = .ok (.invokespecial 261, 3) := by decide +kernel
theorem dX7_meanSlack_21 : decode cX7_meanSlack 21 = .ok (.athrow, 1) := by decide +kernel
theorem dX7_meanSlack_22 : decode cX7_meanSlack 22 = .ok (.aload_n 0, 1) := by decide +kernel
theorem dX7_meanSlack_23 : decode cX7_meanSlack 23 = .ok (.invokevirtual 135, 3) := by decide +kernel
theorem dX7_meanSlack_26 : decode cX7_meanSlack 26 = .ok (.astore_n 2, 1) := by decide +kernel
theorem dX7_meanSlack_27 : decode cX7_meanSlack 27 = .ok (.iconst 0, 1) := by decide +kernel
theorem dX7_meanSlack_28 : decode cX7_meanSlack 28 = .ok (.istore_n 3, 1) := by decide +kernel
theorem dX7_meanSlack_29 : decode cX7_meanSlack 29 = .ok (.iconst 0, 1) := by decide +kernel
theorem dX7_meanSlack_30 : decode cX7_meanSlack 30 = .ok (.istore 4, 2) := by decide +kernel
theorem dX7_meanSlack_32 : decode cX7_meanSlack 32 = .ok (.iload 4, 2) := by decide +kernel
theorem dX7_meanSlack_34 : decode cX7_meanSlack 34 = .ok (.iload_n 1, 1) := by decide +kernel
theorem dX7_meanSlack_35 : decode cX7_meanSlack 35 = .ok (.if_icmp .ge 18, 3) := by decide +kernel
theorem dX7_meanSlack_38 : decode cX7_meanSlack 38 = .ok (.iload_n 3, 1) := by decide +kernel
theorem dX7_meanSlack_39 : decode cX7_meanSlack 39 = .ok (.aload_n 2, 1) := by decide +kernel
theorem dX7_meanSlack_40 : decode cX7_meanSlack 40 = .ok (.iload 4, 2) := by decide +kernel
theorem dX7_meanSlack_42 : decode cX7_meanSlack 42 = .ok (.invokevirtual 202, 3) := by decide +kernel
theorem dX7_meanSlack_45 : decode cX7_meanSlack 45 = .ok (.iadd, 1) := by decide +kernel
theorem dX7_meanSlack_46 : decode cX7_meanSlack 46 = .ok (.istore_n 3, 1) := by decide +kernel
theorem dX7_meanSlack_47 : decode cX7_meanSlack 47 = .ok (.iinc 4 1, 3) := by decide +kernel
theorem dX7_meanSlack_50 : decode cX7_meanSlack 50 = .ok (.goto (-18), 3) := by decide +kernel
theorem dX7_meanSlack_53 : decode cX7_meanSlack 53 = .ok (.iload_n 3, 1) := by decide +kernel
theorem dX7_meanSlack_54 : decode cX7_meanSlack 54 = .ok (.i2d, 1) := by decide +kernel
theorem dX7_meanSlack_55 : decode cX7_meanSlack 55 = .ok (.iload_n 1, 1) := by decide +kernel
theorem dX7_meanSlack_56 : decode cX7_meanSlack 56 = .ok (.i2d, 1) := by decide +kernel
theorem dX7_meanSlack_57 : decode cX7_meanSlack 57 = .ok (.ddiv, 1) := by decide +kernel
theorem dX7_meanSlack_58 : decode cX7_meanSlack 58 = .ok (.dreturn, 1) := by decide +kernel
theorem dX7_utilization_0 : decode cX7_utilization 0 = .ok (.iload_n 1, 1) := by decide +kernel
theorem dX7_utilization_1 : decode cX7_utilization 1 = .ok (.invokestatic 158, 3) := by decide +kernel
theorem dX7_utilization_4 : decode cX7_utilization 4 = .ok (.aload_n 0, 1) := by decide +kernel
theorem dX7_utilization_5 : decode cX7_utilization 5 = .ok (.getfield 12, 3) := by decide +kernel
theorem dX7_utilization_8 : decode cX7_utilization 8 = .ok (.getfield 132, 3) := by decide +kernel
theorem dX7_utilization_11 : decode cX7_utilization 11 = .ok (.iload_n 1, 1) := by decide +kernel
theorem dX7_utilization_12 : decode cX7_utilization 12 = .ok (.invokestatic 115, 3) := by decide +kernel
theorem dX7_utilization_15 : decode cX7_utilization 15 = .ok (.aload_n 0, 1) := by decide +kernel
theorem dX7_utilization_16 : decode cX7_utilization 16 = .ok (.invokevirtual 135, 3) := by decide +kernel
theorem dX7_utilization_19 : decode cX7_utilization 19 = .ok (.getfield 146, 3) := by decide +kernel
theorem dX7_utilization_22 : decode cX7_utilization 22 = .ok (.imul, 1) := by decide +kernel
theorem dX7_utilization_23 : decode cX7_utilization 23 = .ok (.istore_n 2, 1) := by decide +kernel
theorem dX7_utilization_24 : decode cX7_utilization 24 = .ok (.iload_n 2, 1) := by decide +kernel
theorem dX7_utilization_25 : decode cX7_utilization 25 = .ok (.ifCond .ne 13, 3) := by decide +kernel
theorem dX7_utilization_28 : decode cX7_utilization 28 = .ok (.new 259, 3) := by decide +kernel
theorem dX7_utilization_31 : decode cX7_utilization 31 = .ok (.dup, 1) := by decide +kernel
theorem dX7_utilization_32 : decode cX7_utilization 32 = .ok (.ldc 208, 2) := by decide +kernel
theorem dX7_utilization_34 : decode cX7_utilization 34 = .ok (.invokespecial 261, 3) := by decide +kernel
theorem dX7_utilization_37 : decode cX7_utilization 37 = .ok (.athrow, 1) := by decide +kernel
theorem dX7_utilization_38 : decode cX7_utilization 38 = .ok (.aload_n 0, 1) := by decide +kernel
theorem dX7_utilization_39 : decode cX7_utilization 39 = .ok (.getfield 12, 3) := by decide +kernel
theorem dX7_utilization_42 : decode cX7_utilization 42 = .ok (.iload_n 1, 1) := by decide +kernel
theorem dX7_utilization_43 : decode cX7_utilization 43 = .ok (.invokevirtual 225, 3) := by decide +kernel
theorem dX7_utilization_46 : decode cX7_utilization 46 = .ok (.i2f, 1) := by decide +kernel
theorem dX7_utilization_47 : decode cX7_utilization 47 = .ok (.iload_n 2, 1) := by decide +kernel
theorem dX7_utilization_48 : decode cX7_utilization 48 = .ok (.i2f, 1) := by decide +kernel
theorem dX7_utilization_49 : decode cX7_utilization 49 = .ok (.fdiv, 1) := by decide +kernel
theorem dX7_utilization_50 : decode cX7_utilization 50 = .ok (.freturn, 1) := by decide +kernel
theorem dX7_isConsistent_0 : decode cX7_isConsistent 0 = .ok (.aload_n 0, 1) := by decide +kernel
theorem dX7_isConsistent_1 : decode cX7_isConsistent 1 = .ok (.invokevirtual 262, 3) := by decide +kernel
theorem dX7_isConsistent_4 : decode cX7_isConsistent 4 = .ok (.ifCond .eq 21, 3) := by decide +kernel
theorem dX7_isConsistent_7 : decode cX7_isConsistent 7 = .ok (.aload_n 0, 1) := by decide +kernel
theorem dX7_isConsistent_8 : decode cX7_isConsistent 8 = .ok (.invokevirtual 266, 3) := by decide +kernel
theorem dX7_isConsistent_11 : decode cX7_isConsistent 11 = .ok (.ifCond .eq 14, 3) := by decide +kernel
theorem dX7_isConsistent_14 : decode cX7_isConsistent 14 = .ok (.aload_n 0, 1) := by decide +kernel
theorem dX7_isConsistent_15 : decode cX7_isConsistent 15 = .ok (.invokevirtual 269, 3) := by decide +kernel
theorem dX7_isConsistent_18 : decode cX7_isConsistent 18 = .ok (.ifCond .eq 7, 3) := by decide +kernel
theorem dX7_isConsistent_21 : decode cX7_isConsistent 21 = .ok (.iconst 1, 1) := by decide +kernel
theorem dX7_isConsistent_22 : decode cX7_isConsistent 22 = .ok (.goto 4, 3) := by decide +kernel
theorem dX7_isConsistent_25 : decode cX7_isConsistent 25 = .ok (.iconst 0, 1) := by decide +kernel
theorem dX7_isConsistent_26 : decode cX7_isConsistent 26 = .ok (.ireturn, 1) := by decide +kernel
theorem dX7_renderTask_0 : decode cX7_renderTask 0 = .ok (.aload_n 0, 1) := by decide +kernel
theorem dX7_renderTask_1 : decode cX7_renderTask 1 = .ok (.iload_n 1, 1) := by decide +kernel
theorem dX7_renderTask_2 : decode cX7_renderTask 2 = .ok (.invokevirtual 149, 3) := by decide +kernel
theorem dX7_renderTask_5 : decode cX7_renderTask 5 = .ok (.aload_n 0, 1) := by decide +kernel
theorem dX7_renderTask_6 : decode cX7_renderTask 6 = .ok (.invokevirtual 135, 3) := by decide +kernel
theorem dX7_renderTask_9 : decode cX7_renderTask 9 = .ok (.astore_n 2, 1) := by decide +kernel
theorem dX7_renderTask_10 : decode cX7_renderTask 10 = .ok (.aload_n 0, 1) := by decide +kernel
theorem dX7_renderTask_11 : decode cX7_renderTask 11 = .ok (.getfield 46, 3) := by decide +kernel
theorem dX7_renderTask_14 : decode cX7_renderTask 14 = .ok (.invokevirtual 272, 3) := by decide +kernel
theorem dX7_renderTask_17 : decode cX7_renderTask 17 = .ok (.aload_n 0, 1) := by decide +kernel
theorem dX7_renderTask_18 : decode cX7_renderTask 18 = .ok (.getfield 46, 3) := by decide +kernel
theorem dX7_renderTask_21 : decode cX7_renderTask 21 = .ok (.iload_n 1, 1) := by decide +kernel
theorem dX7_renderTask_22 : decode cX7_renderTask 22 = .ok (.invokevirtual 275, 3) := by decide +kernel
theorem dX7_renderTask_25 : decode cX7_renderTask 25 = .ok (.aload_n 0, 1) := by decide +kernel
theorem dX7_renderTask_26 : decode cX7_renderTask 26 = .ok (.getfield 46, 3) := by decide +kernel
theorem dX7_renderTask_29 : decode cX7_renderTask 29 = .ok (.bipush 58, 2) := by decide +kernel
theorem dX7_renderTask_31 : decode cX7_renderTask 31 = .ok (.invokevirtual 278, 3) := by decide +kernel
theorem dX7_renderTask_34 : decode cX7_renderTask 34 = .ok (.aload_n 0, 1) := by decide +kernel
theorem dX7_renderTask_35 : decode cX7_renderTask 35 = .ok (.getfield 46, 3) := by decide +kernel
theorem dX7_renderTask_38 : decode cX7_renderTask 38 = .ok (.aload_n 0, 1) := by decide +kernel
theorem dX7_renderTask_39 : decode cX7_renderTask 39 = .ok (.getfield 12, 3) := by decide +kernel
theorem dX7_renderTask_42 : decode cX7_renderTask 42 = .ok (.getfield 112, 3) := by decide +kernel
theorem dX7_renderTask_45 : decode cX7_renderTask 45 = .ok (.iload_n 1, 1) := by decide +kernel
theorem dX7_renderTask_46 : decode cX7_renderTask 46 = .ok (.invokestatic 115, 3) := by decide +kernel
theorem dX7_renderTask_49 : decode cX7_renderTask 49 = .ok (.invokevirtual 275, 3) := by decide +kernel
theorem dX7_renderTask_52 : decode cX7_renderTask 52 = .ok (.aload_n 0, 1) := by decide +kernel
theorem dX7_renderTask_53 : decode cX7_renderTask 53 = .ok (.getfield 46, 3) := by decide +kernel
theorem dX7_renderTask_56 : decode cX7_renderTask 56 = .ok (.bipush 120, 2) := by decide +kernel
theorem dX7_renderTask_58 : decode cX7_renderTask 58 = .ok (.invokevirtual 278, 3) := by decide +kernel
theorem dX7_renderTask_61 : decode cX7_renderTask 61 = .ok (.aload_n 0, 1) := by decide +kernel
theorem dX7_renderTask_62 : decode cX7_renderTask 62 = .ok (.getfield 46, 3) := by decide +kernel
theorem dX7_renderTask_65 : decode cX7_renderTask 65 = .ok (.aload_n 0, 1) := by decide +kernel
theorem dX7_renderTask_66 : decode cX7_renderTask 66 = .ok (.getfield 12, 3) := by decide +kernel
theorem dX7_renderTask_69 : decode cX7_renderTask 69 = .ok (.getfield 155, 3) := by decide +kernel
theorem dX7_renderTask_72 : decode cX7_renderTask 72 = .ok (.iload_n 1, 1) := by decide +kernel
theorem dX7_renderTask_73 : decode cX7_renderTask 73 = .ok (.invokestatic 115, 3) := by decide +kernel
theorem dX7_renderTask_76 : decode cX7_renderTask 76 = .ok (.invokevirtual 275, 3) := by decide +kernel
theorem dX7_renderTask_79 : decode cX7_renderTask 79 = .ok (.aload_n 0, 1) := by decide +kernel
theorem dX7_renderTask_80 : decode cX7_renderTask 80 = .ok (.getfield 46, 3) := by decide +kernel
theorem dX7_renderTask_83 : decode cX7_renderTask 83 = .ok (.bipush 114, 2) := by decide +kernel
theorem dX7_renderTask_85 : decode cX7_renderTask 85 = .ok (.invokevirtual 278, 3) := by decide +kernel
theorem dX7_renderTask_88 : decode cX7_renderTask 88 = .ok (.aload_n 0, 1) := by decide +kernel
theorem dX7_renderTask_89 : decode cX7_renderTask 89 = .ok (.getfield 46, 3) := by decide +kernel
theorem dX7_renderTask_92 : decode cX7_renderTask 92 = .ok (.aload_n 0, 1) := by decide +kernel
theorem dX7_renderTask_93 : decode cX7_renderTask 93 = .ok (.getfield 12, 3) := by decide +kernel
theorem dX7_renderTask_96 : decode cX7_renderTask 96 = .ok (.getfield 152, 3) := by decide +kernel
theorem dX7_renderTask_99 : decode cX7_renderTask 99 = .ok (.iload_n 1, 1) := by decide +kernel
theorem dX7_renderTask_100 : decode cX7_renderTask 100 = .ok (.invokestatic 115, 3) := by decide +kernel
theorem dX7_renderTask_103 : decode cX7_renderTask 103 = .ok (.invokevirtual 275, 3) := by decide +kernel
theorem dX7_renderTask_106 : decode cX7_renderTask 106 = .ok (.aload_n 0, 1) := by decide +kernel
theorem dX7_renderTask_107 : decode cX7_renderTask 107 = .ok (.getfield 46, 3) := by decide +kernel
theorem dX7_renderTask_110 : decode cX7_renderTask 110 = .ok (.bipush 64, 2) := by decide +kernel
theorem dX7_renderTask_112 : decode cX7_renderTask 112 = .ok (.invokevirtual 278, 3) := by decide +kernel
theorem dX7_renderTask_115 : decode cX7_renderTask 115 = .ok (.aload_n 0, 1) := by decide +kernel
theorem dX7_renderTask_116 : decode cX7_renderTask 116 = .ok (.getfield 46, 3) := by decide +kernel
theorem dX7_renderTask_119 : decode cX7_renderTask 119 = .ok (.aload_n 2, 1) := by decide +kernel
theorem dX7_renderTask_120 : decode cX7_renderTask 120 = .ok (.getfield 139, 3) := by decide +kernel
theorem dX7_renderTask_123 : decode cX7_renderTask 123 = .ok (.iload_n 1, 1) := by decide +kernel
theorem dX7_renderTask_124 : decode cX7_renderTask 124 = .ok (.invokestatic 115, 3) := by decide +kernel
theorem dX7_renderTask_127 : decode cX7_renderTask 127 = .ok (.invokevirtual 275, 3) := by decide +kernel
theorem dX7_renderTask_130 : decode cX7_renderTask 130 = .ok (.aload_n 2, 1) := by decide +kernel
theorem dX7_renderTask_131 : decode cX7_renderTask 131 = .ok (.iload_n 1, 1) := by decide +kernel
theorem dX7_renderTask_132 : decode cX7_renderTask 132 = .ok (.invokevirtual 202, 3) := by decide +kernel
theorem dX7_renderTask_135 : decode cX7_renderTask 135 = .ok (.ifCond .ne 12, 3) := by decide +kernel
theorem dX7_renderTask_138 : decode cX7_renderTask 138 = .ok (.aload_n 0, 1) := by decide +kernel
theorem dX7_renderTask_139 : decode cX7_renderTask 139 = .ok (.getfield 46, 3) := by decide +kernel
theorem dX7_renderTask_142 : decode cX7_renderTask 142 = .ok (.bipush 33, 2) := by decide +kernel
theorem dX7_renderTask_144 : decode cX7_renderTask 144 = .ok (.invokevirtual 278, 3) := by decide +kernel
theorem dX7_renderTask_147 : decode cX7_renderTask 147 = .ok (.iconst 0, 1) := by decide +kernel
theorem dX7_renderTask_148 : decode cX7_renderTask 148 = .ok (.istore_n 3, 1) := by decide +kernel
theorem dX7_renderTask_149 : decode cX7_renderTask 149 = .ok (.iload_n 3, 1) := by decide +kernel
theorem dX7_renderTask_150 : decode cX7_renderTask 150 = .ok (.aload_n 0, 1) := by decide +kernel
theorem dX7_renderTask_151 : decode cX7_renderTask 151 = .ok (.getfield 12, 3) := by decide +kernel
theorem dX7_renderTask_154 : decode cX7_renderTask 154 = .ok (.getfield 88, 3) := by decide +kernel
theorem dX7_renderTask_157 : decode cX7_renderTask 157 = .ok (.if_icmp .ge 38, 3) := by decide +kernel
theorem dX7_renderTask_160 : decode cX7_renderTask 160 = .ok (.aload_n 0, 1) := by decide +kernel
theorem dX7_renderTask_161 : decode cX7_renderTask 161 = .ok (.getfield 12, 3) := by decide +kernel
theorem dX7_renderTask_164 : decode cX7_renderTask 164 = .ok (.iload_n 1, 1) := by decide +kernel
theorem dX7_renderTask_165 : decode cX7_renderTask 165 = .ok (.iload_n 3, 1) := by decide +kernel
theorem dX7_renderTask_166 : decode cX7_renderTask 166 = .ok (.invokevirtual 95, 3) := by decide +kernel
theorem dX7_renderTask_169 : decode cX7_renderTask 169 = .ok (.ifCond .eq 20, 3) := by decide +kernel
theorem dX7_renderTask_172 : decode cX7_renderTask 172 = .ok (.aload_n 0, 1) := by decide +kernel
theorem dX7_renderTask_173 : decode cX7_renderTask 173 = .ok (.getfield 46, 3) := by decide +kernel
theorem dX7_renderTask_176 : decode cX7_renderTask 176 = .ok (.bipush 60, 2) := by decide +kernel
theorem dX7_renderTask_178 : decode cX7_renderTask 178 = .ok (.invokevirtual 278, 3) := by decide +kernel
theorem dX7_renderTask_181 : decode cX7_renderTask 181 = .ok (.aload_n 0, 1) := by decide +kernel
theorem dX7_renderTask_182 : decode cX7_renderTask 182 = .ok (.getfield 46, 3) := by decide +kernel
theorem dX7_renderTask_185 : decode cX7_renderTask 185 = .ok (.iload_n 3, 1) := by decide +kernel
theorem dX7_renderTask_186 : decode cX7_renderTask 186 = .ok (.invokevirtual 275, 3) := by decide +kernel
theorem dX7_renderTask_189 : decode cX7_renderTask 189 = .ok (.iinc 3 1, 3) := by decide +kernel
theorem dX7_renderTask_192 : decode cX7_renderTask 192 = .ok (.goto (-43), 3) := by decide +kernel
theorem dX7_renderTask_195 : decode cX7_renderTask 195 = .ok (.aload_n 0, 1) := by decide +kernel
theorem dX7_renderTask_196 : decode cX7_renderTask 196 = .ok (.getfield 46, 3) := by decide +kernel
theorem dX7_renderTask_199 : decode cX7_renderTask 199 = .ok (.getfield 281, 3) := by decide +kernel
theorem dX7_renderTask_202 : decode cX7_renderTask 202 = .ok (.ireturn, 1) := by decide +kernel
theorem dX7_renderUsage_0 : decode cX7_renderUsage 0 = .ok (.iload_n 1, 1) := by decide +kernel
theorem dX7_renderUsage_1 : decode cX7_renderUsage 1 = .ok (.invokestatic 158, 3) := by decide +kernel
theorem dX7_renderUsage_4 : decode cX7_renderUsage 4 = .ok (.aload_n 0, 1) := by decide +kernel
theorem dX7_renderUsage_5 : decode cX7_renderUsage 5 = .ok (.invokevirtual 135, 3) := by decide +kernel
theorem dX7_renderUsage_8 : decode cX7_renderUsage 8 = .ok (.astore_n 2, 1) := by decide +kernel
theorem dX7_renderUsage_9 : decode cX7_renderUsage 9 = .ok (.aload_n 0, 1) := by decide +kernel
theorem dX7_renderUsage_10 : decode cX7_renderUsage 10 = .ok (.getfield 46, 3) := by decide +kernel
theorem dX7_renderUsage_13 : decode cX7_renderUsage 13 = .ok (.invokevirtual 272, 3) := by decide +kernel
theorem dX7_renderUsage_16 : decode cX7_renderUsage 16 = .ok (.iconst 0, 1) := by decide +kernel
theorem dX7_renderUsage_17 : decode cX7_renderUsage 17 = .ok (.istore_n 3, 1) := by decide +kernel
theorem dX7_renderUsage_18 : decode cX7_renderUsage 18 = .ok (.iload_n 3, 1) := by decide +kernel
theorem dX7_renderUsage_19 : decode cX7_renderUsage 19 = .ok (.aload_n 2, 1) := by decide +kernel
theorem dX7_renderUsage_20 : decode cX7_renderUsage 20 = .ok (.getfield 146, 3) := by decide +kernel
theorem dX7_renderUsage_23 : decode cX7_renderUsage 23 = .ok (.if_icmp .ge 35, 3) := by decide +kernel
theorem dX7_renderUsage_26 : decode cX7_renderUsage 26 = .ok (.iload_n 3, 1) := by decide +kernel
theorem dX7_renderUsage_27 : decode cX7_renderUsage 27 = .ok (.ifCond .le 12, 3) := by decide +kernel
theorem dX7_renderUsage_30 : decode cX7_renderUsage 30 = .ok (.aload_n 0, 1) := by decide +kernel
theorem dX7_renderUsage_31 : decode cX7_renderUsage 31 = .ok (.getfield 46, 3) := by decide +kernel
theorem dX7_renderUsage_34 : decode cX7_renderUsage 34 = .ok (.bipush 44, 2) := by decide +kernel
theorem dX7_renderUsage_36 : decode cX7_renderUsage 36 = .ok (.invokevirtual 278, 3) := by decide +kernel
theorem dX7_renderUsage_39 : decode cX7_renderUsage 39 = .ok (.aload_n 0, 1) := by decide +kernel
theorem dX7_renderUsage_40 : decode cX7_renderUsage 40 = .ok (.getfield 46, 3) := by decide +kernel
theorem dX7_renderUsage_43 : decode cX7_renderUsage 43 = .ok (.aload_n 2, 1) := by decide +kernel
theorem dX7_renderUsage_44 : decode cX7_renderUsage 44 = .ok (.iload_n 1, 1) := by decide +kernel
theorem dX7_renderUsage_45 : decode cX7_renderUsage 45 = .ok (.iload_n 3, 1) := by decide +kernel
theorem dX7_renderUsage_46 : decode cX7_renderUsage 46 = .ok (.invokevirtual 213, 3) := by decide +kernel
theorem dX7_renderUsage_49 : decode cX7_renderUsage 49 = .ok (.invokevirtual 275, 3) := by decide +kernel
theorem dX7_renderUsage_52 : decode cX7_renderUsage 52 = .ok (.iinc 3 1, 3) := by decide +kernel
theorem dX7_renderUsage_55 : decode cX7_renderUsage 55 = .ok (.goto (-37), 3) := by decide +kernel
theorem dX7_renderUsage_58 : decode cX7_renderUsage 58 = .ok (.aload_n 0, 1) := by decide +kernel
theorem dX7_renderUsage_59 : decode cX7_renderUsage 59 = .ok (.getfield 46, 3) := by decide +kernel
theorem dX7_renderUsage_62 : decode cX7_renderUsage 62 = .ok (.getfield 281, 3) := by decide +kernel
theorem dX7_renderUsage_65 : decode cX7_renderUsage 65 = .ok (.ireturn, 1) := by decide +kernel
theorem dX7_outputAt_0 : decode cX7_outputAt 0 = .ok (.iload_n 1, 1) := by decide +kernel
theorem dX7_outputAt_1 : decode cX7_outputAt 1 = .ok (.iconst 0, 1) := by decide +kernel
theorem dX7_outputAt_2 : decode cX7_outputAt 2 = .ok (.aload_n 0, 1) := by decide +kernel
theorem dX7_outputAt_3 : decode cX7_outputAt 3 = .ok (.getfield 46, 3) := by decide +kernel
theorem dX7_outputAt_6 : decode cX7_outputAt 6 = .ok (.getfield 281, 3) := by decide +kernel
theorem dX7_outputAt_9 : decode cX7_outputAt 9 = .ok (.iconst 1, 1) := by decide +kernel
theorem dX7_outputAt_10 : decode cX7_outputAt 10 = .ok (.isub, 1) := by decide +kernel
theorem dX7_outputAt_11 : decode cX7_outputAt 11 = .ok (.invokestatic 179, 3) := by decide +kernel
theorem dX7_outputAt_14 : decode cX7_outputAt 14 = .ok (.ifCond .ne 14, 3) := by decide +kernel
theorem dX7_outputAt_17 : decode cX7_outputAt 17 = .ok (.new 284, 3) := by decide +kernel
theorem dX7_outputAt_20 : decode cX7_outputAt 20 = .ok (.dup, 1) := by decide +kernel
theorem dX7_outputAt_21 : decode cX7_outputAt 21 = .ok (.ldc_w 286, 3) := by decide +kernel
theorem dX7_outputAt_24 : decode cX7_outputAt 24 = .ok (.invokespecial 288, 3) := by decide +kernel
theorem dX7_outputAt_27 : decode cX7_outputAt 27 = .ok (.athrow, 1) := by decide +kernel
theorem dX7_outputAt_28 : decode cX7_outputAt 28 = .ok (.aload_n 0, 1) := by decide +kernel
theorem dX7_outputAt_29 : decode cX7_outputAt 29 = .ok (.getfield 46, 3) := by decide +kernel
theorem dX7_outputAt_32 : decode cX7_outputAt 32 = .ok (.getfield 289, 3) := by decide +kernel
theorem dX7_outputAt_35 : decode cX7_outputAt 35 = .ok (.iload_n 1, 1) := by decide +kernel
theorem dX7_outputAt_36 : decode cX7_outputAt 36 = .ok (.invokestatic 293, 3) := by decide +kernel
theorem dX7_outputAt_39 : decode cX7_outputAt 39 = .ok (.ireturn, 1) := by decide +kernel
theorem dX7_beginChange_0 : decode cX7_beginChange 0 = .ok (.aload_n 0, 1) := by decide +kernel
theorem dX7_beginChange_1 : decode cX7_beginChange 1 = .ok (.getfield 25, 3) := by decide +kernel
theorem dX7_beginChange_4 : decode cX7_beginChange 4 = .ok (.aload_n 0, 1) := by decide +kernel
theorem dX7_beginChange_5 : decode cX7_beginChange 5 = .ok (.getfield 12, 3) := by decide +kernel
theorem dX7_beginChange_8 : decode cX7_beginChange 8 = .ok (.invokevirtual 351, 3) := by decide +kernel
theorem dX7_beginChange_11 : decode cX7_beginChange 11 = .ok (.aload_n 0, 1) := by decide +kernel
theorem dX7_beginChange_12 : decode cX7_beginChange 12 = .ok (.iconst 0, 1) := by decide +kernel
theorem dX7_beginChange_13 : decode cX7_beginChange 13 = .ok (.putfield 342, 3) := by decide +kernel
theorem dX7_beginChange_16 : decode cX7_beginChange 16 = .ok (.return_, 1) := by decide +kernel
theorem dX7_currentPlan_0 : decode cX7_currentPlan 0 = .ok (.aload_n 0, 1) := by decide +kernel
theorem dX7_currentPlan_1 : decode cX7_currentPlan 1 = .ok (.getfield 342, 3) := by decide +kernel
theorem dX7_currentPlan_4 : decode cX7_currentPlan 4 = .ok (.ifCond .ne 19, 3) := by decide +kernel
theorem dX7_currentPlan_7 : decode cX7_currentPlan 7 = .ok (.aload_n 0, 1) := by decide +kernel
theorem dX7_currentPlan_8 : decode cX7_currentPlan 8 = .ok (.getfield 32, 3) := by decide +kernel
theorem dX7_currentPlan_11 : decode cX7_currentPlan 11 = .ok (.aload_n 0, 1) := by decide +kernel
theorem dX7_currentPlan_12 : decode cX7_currentPlan 12 = .ok (.getfield 12, 3) := by decide +kernel
theorem dX7_currentPlan_15 : decode cX7_currentPlan 15 = .ok (.invokevirtual 354, 3) := by decide +kernel
theorem dX7_currentPlan_18 : decode cX7_currentPlan 18 = .ok (.aload_n 0, 1) := by decide +kernel
theorem dX7_currentPlan_19 : decode cX7_currentPlan 19 = .ok (.iconst 1, 1) := by decide +kernel
theorem dX7_currentPlan_20 : decode cX7_currentPlan 20 = .ok (.putfield 342, 3) := by decide +kernel
theorem dX7_currentPlan_23 : decode cX7_currentPlan 23 = .ok (.aload_n 0, 1) := by decide +kernel
theorem dX7_currentPlan_24 : decode cX7_currentPlan 24 = .ok (.getfield 32, 3) := by decide +kernel
theorem dX7_currentPlan_27 : decode cX7_currentPlan 27 = .ok (.areturn, 1) := by decide +kernel
theorem dX7_isWorkedOn_0 : decode cX7_isWorkedOn 0 = .ok (.aload_n 0, 1) := by decide +kernel
theorem dX7_isWorkedOn_1 : decode cX7_isWorkedOn 1 = .ok (.invokevirtual 135, 3) := by decide +kernel
theorem dX7_isWorkedOn_4 : decode cX7_isWorkedOn 4 = .ok (.getfield 139, 3) := by decide +kernel
theorem dX7_isWorkedOn_7 : decode cX7_isWorkedOn 7 = .ok (.iload_n 1, 1) := by decide +kernel
theorem dX7_isWorkedOn_8 : decode cX7_isWorkedOn 8 = .ok (.invokestatic 115, 3) := by decide +kernel
theorem dX7_isWorkedOn_11 : decode cX7_isWorkedOn 11 = .ok (.istore_n 3, 1) := by decide +kernel
theorem dX7_isWorkedOn_12 : decode cX7_isWorkedOn 12 = .ok (.iload_n 2, 1) := by decide +kernel
theorem dX7_isWorkedOn_13 : decode cX7_isWorkedOn 13 = .ok (.iload_n 3, 1) := by decide +kernel
theorem dX7_isWorkedOn_14 : decode cX7_isWorkedOn 14 = .ok (.if_icmp .lt 24, 3) := by decide +kernel
theorem dX7_isWorkedOn_17 : decode cX7_isWorkedOn 17 = .ok (.iload_n 2, 1) := by decide +kernel
theorem dX7_isWorkedOn_18 : decode cX7_isWorkedOn 18 = .ok (.iload_n 3, 1) := by decide +kernel
theorem dX7_isWorkedOn_19 : decode cX7_isWorkedOn 19 = .ok (.aload_n 0, 1) := by decide +kernel
theorem dX7_isWorkedOn_20 : decode cX7_isWorkedOn 20 = .ok (.getfield 12, 3) := by decide +kernel
theorem dX7_isWorkedOn_23 : decode cX7_isWorkedOn 23 = .ok (.getfield 112, 3) := by decide +kernel
theorem dX7_isWorkedOn_26 : decode cX7_isWorkedOn 26 = .ok (.iload_n 1, 1) := by decide +kernel
theorem dX7_isWorkedOn_27 : decode cX7_isWorkedOn 27 = .ok (.invokestatic 115, 3) := by decide +kernel
theorem dX7_isWorkedOn_30 : decode cX7_isWorkedOn 30 = .ok (.iadd, 1) := by decide +kernel
theorem dX7_isWorkedOn_31 : decode cX7_isWorkedOn 31 = .ok (.if_icmp .ge 7, 3) := by decide +kernel
theorem dX7_isWorkedOn_34 : decode cX7_isWorkedOn 34 = .ok (.iconst 1, 1) := by decide +kernel
theorem dX7_isWorkedOn_35 : decode cX7_isWorkedOn 35 = .ok (.goto 4, 3) := by decide +kernel
theorem dX7_isWorkedOn_38 : decode cX7_isWorkedOn 38 = .ok (.iconst 0, 1) := by decide +kernel
theorem dX7_isWorkedOn_39 : decode cX7_isWorkedOn 39 = .ok (.ireturn, 1) := by decide +kernel
theorem dX7_driftOf_0 : decode cX7_driftOf 0 = .ok (.aload_n 0, 1) := by decide +kernel
theorem dX7_driftOf_1 : decode cX7_driftOf 1 = .ok (.invokevirtual 135, 3) := by decide +kernel
theorem dX7_driftOf_4 : decode cX7_driftOf 4 = .ok (.getfield 139, 3) := by decide +kernel
theorem dX7_driftOf_7 : decode cX7_driftOf 7 = .ok (.iload_n 1, 1) := by decide +kernel
theorem dX7_driftOf_8 : decode cX7_driftOf 8 = .ok (.invokestatic 115, 3) := by decide +kernel
theorem dX7_driftOf_11 : decode cX7_driftOf 11 = .ok (.aload_n 0, 1) := by decide +kernel
theorem dX7_driftOf_12 : decode cX7_driftOf 12 = .ok (.getfield 12, 3) := by decide +kernel
theorem dX7_driftOf_15 : decode cX7_driftOf 15 = .ok (.getfield 238, 3) := by decide +kernel
theorem dX7_driftOf_18 : decode cX7_driftOf 18 = .ok (.iload_n 1, 1) := by decide +kernel
theorem dX7_driftOf_19 : decode cX7_driftOf 19 = .ok (.invokestatic 115, 3) := by decide +kernel
theorem dX7_driftOf_22 : decode cX7_driftOf 22 = .ok (.isub, 1) := by decide +kernel
theorem dX7_driftOf_23 : decode cX7_driftOf 23 = .ok (.ireturn, 1) := by decide +kernel
theorem dX7_sortingKey_0 : decode cX7_sortingKey 0 = .ok (.bipush 10, 2) := by decide +kernel
theorem dX7_sortingKey_2 : decode cX7_sortingKey 2 = .ok (.iload_n 0, 1) := by decide +kernel
theorem dX7_sortingKey_3 : decode cX7_sortingKey 3 = .ok (.imul, 1) := by decide +kernel
theorem dX7_sortingKey_4 : decode cX7_sortingKey 4 = .ok (.iload_n 1, 1) := by decide +kernel
theorem dX7_sortingKey_5 : decode cX7_sortingKey 5 = .ok (.isub, 1) := by decide +kernel
theorem dX7_sortingKey_6 : decode cX7_sortingKey 6 = .ok (.ireturn, 1) := by decide +kernel
theorem dX7_taskAtRank_0 : decode cX7_taskAtRank 0 = .ok (.iconst 0, 1) := by decide +kernel
theorem dX7_taskAtRank_1 : decode cX7_taskAtRank 1 = .ok (.istore_n 2, 1) := by decide +kernel
theorem dX7_taskAtRank_2 : decode cX7_taskAtRank 2 = .ok (.iload_n 2, 1) := by decide +kernel
theorem dX7_taskAtRank_3 : decode cX7_taskAtRank 3 = .ok (.aload_n 0, 1) := by decide +kernel
theorem dX7_taskAtRank_4 : decode cX7_taskAtRank 4 = .ok (.getfield 12, 3) := by decide +kernel
theorem dX7_taskAtRank_7 : decode cX7_taskAtRank 7 = .ok (.getfield 88, 3) := by decide +kernel
theorem dX7_taskAtRank_10 : decode cX7_taskAtRank 10 = .ok (.if_icmp .ge 20, 3) := by decide +kernel
theorem dX7_taskAtRank_13 : decode cX7_taskAtRank 13 = .ok (.aload_n 0, 1) := by decide +kernel
theorem dX7_taskAtRank_14 : decode cX7_taskAtRank 14 = .ok (.iload_n 2, 1) := by decide +kernel
theorem dX7_taskAtRank_15 : decode cX7_taskAtRank 15 = .ok (.invokevirtual 385, 3) := by decide +kernel
theorem dX7_taskAtRank_18 : decode cX7_taskAtRank 18 = .ok (.iload_n 1, 1) := by decide +kernel
theorem dX7_taskAtRank_19 : decode cX7_taskAtRank 19 = .ok (.if_icmp .ne 5, 3) := by decide +kernel
theorem dX7_taskAtRank_22 : decode cX7_taskAtRank 22 = .ok (.iload_n 2, 1) := by decide +kernel
theorem dX7_taskAtRank_23 : decode cX7_taskAtRank 23 = .ok (.ireturn, 1) := by decide +kernel
theorem dX7_taskAtRank_24 : decode cX7_taskAtRank 24 = .ok (.iinc 2 1, 3) := by decide +kernel
theorem dX7_taskAtRank_27 : decode cX7_taskAtRank 27 = .ok (.goto (-25), 3) := by decide +kernel
theorem dX7_taskAtRank_30 : decode cX7_taskAtRank 30 = .ok (.new 183, 3) := by decide +kernel
theorem dX7_taskAtRank_33 : decode cX7_taskAtRank 33 = .ok (.dup, 1) := by decide +kernel
theorem dX7_taskAtRank_34 : decode cX7_taskAtRank 34 = .ok (.ldc_w 388, 3) := by decide +kernel
theorem dX7_taskAtRank_37 : decode cX7_taskAtRank 37 = .ok (.invokespecial 187, 3) := by decide +kernel
theorem dX7_taskAtRank_40 : decode cX7_taskAtRank 40 = .ok (.athrow, 1) := by decide +kernel
theorem dX7_countBefore_0 : decode cX7_countBefore 0 = .ok (.aload_n 0, 1) := by decide +kernel
theorem dX7_countBefore_1 : decode cX7_countBefore 1 = .ok (.getfield 50, 3) := by decide +kernel
theorem dX7_countBefore_4 : decode cX7_countBefore 4 = .ok (.iload_n 1, 1) := by decide +kernel
theorem dX7_countBefore_5 : decode cX7_countBefore 5 = .ok (.invokestatic 115, 3) := by decide +kernel
theorem dX7_countBefore_8 : decode cX7_countBefore 8 = .ok (.istore_n 2, 1) := by decide +kernel
theorem dX7_countBefore_9 : decode cX7_countBefore 9 = .ok (.iconst 0, 1) := by decide +kernel
theorem dX7_countBefore_10 : decode cX7_countBefore 10 = .ok (.istore_n 3, 1) := by decide +kernel
theorem dX7_countBefore_11 : decode cX7_countBefore 11 = .ok (.iconst 0, 1) := by decide +kernel
theorem dX7_countBefore_12 : decode cX7_countBefore 12 = .ok (.istore 4, 2) := by decide +kernel
theorem dX7_countBefore_14 : decode cX7_countBefore 14 = .ok (.iload 4, 2) := by decide +kernel
theorem dX7_countBefore_16 : decode cX7_countBefore 16 = .ok (.aload_n 0, 1) := by decide +kernel
theorem dX7_countBefore_17 : decode cX7_countBefore 17 = .ok (.getfield 12, 3) := by decide +kernel
theorem dX7_countBefore_20 : decode cX7_countBefore 20 = .ok (.getfield 88, 3) := by decide +kernel
theorem dX7_countBefore_23 : decode cX7_countBefore 23 = .ok (.if_icmp .ge 41, 3) := by decide +kernel
theorem dX7_countBefore_26 : decode cX7_countBefore 26 = .ok (.aload_n 0, 1) := by decide +kernel
theorem dX7_countBefore_27 : decode cX7_countBefore 27 = .ok (.getfield 50, 3) := by decide +kernel
theorem dX7_countBefore_30 : decode cX7_countBefore 30 = .ok (.iload 4, 2) := by decide +kernel
theorem dX7_countBefore_32 : decode cX7_countBefore 32 = .ok (.invokestatic 115, 3) := by decide +kernel
theorem dX7_countBefore_35 : decode cX7_countBefore 35 = .ok (.istore 5, 2) := by decide +kernel
theorem dX7_countBefore_37 : decode cX7_countBefore 37 = .ok (.iload 5, 2) := by decide +kernel
theorem dX7_countBefore_39 : decode cX7_countBefore 39 = .ok (.iload_n 2, 1) := by decide +kernel
theorem dX7_countBefore_40 : decode cX7_countBefore 40 = .ok (.if_icmp .lt 15, 3) := by decide +kernel
theorem dX7_countBefore_43 : decode cX7_countBefore 43 = .ok (.iload 5, 2) := by decide +kernel
theorem dX7_countBefore_45 : decode cX7_countBefore 45 = .ok (.iload_n 2, 1) := by decide +kernel
theorem dX7_countBefore_46 : decode cX7_countBefore 46 = .ok (.if_icmp .ne 12, 3) := by decide +kernel
theorem dX7_countBefore_49 : decode cX7_countBefore 49 = .ok (.iload 4, 2) := by decide +kernel
theorem dX7_countBefore_51 : decode cX7_countBefore 51 = .ok (.iload_n 1, 1) := by decide +kernel
theorem dX7_countBefore_52 : decode cX7_countBefore 52 = .ok (.if_icmp .ge 6, 3) := by decide +kernel
theorem dX7_countBefore_55 : decode cX7_countBefore 55 = .ok (.iinc 3 1, 3) := by decide +kernel
theorem dX7_countBefore_58 : decode cX7_countBefore 58 = .ok (.iinc 4 1, 3) := by decide +kernel
theorem dX7_countBefore_61 : decode cX7_countBefore 61 = .ok (.goto (-47), 3) := by decide +kernel
theorem dX7_countBefore_64 : decode cX7_countBefore 64 = .ok (.iload_n 3, 1) := by decide +kernel
theorem dX7_countBefore_65 : decode cX7_countBefore 65 = .ok (.ireturn, 1) := by decide +kernel
theorem dX7_startsAgree_0 : decode cX7_startsAgree 0 = .ok (.aload_n 0, 1) := by decide +kernel
theorem dX7_startsAgree_1 : decode cX7_startsAgree 1 = .ok (.invokevirtual 135, 3) := by decide +kernel
theorem dX7_startsAgree_4 : decode cX7_startsAgree 4 = .ok (.astore_n 1, 1) := by decide +kernel
theorem dX7_startsAgree_5 : decode cX7_startsAgree 5 = .ok (.iconst 0, 1) := by decide +kernel
theorem dX7_startsAgree_6 : decode cX7_startsAgree 6 = .ok (.istore_n 2, 1) := by decide +kernel
theorem dX7_startsAgree_7 : decode cX7_startsAgree 7 = .ok (.iload_n 2, 1) := by decide +kernel
theorem dX7_startsAgree_8 : decode cX7_startsAgree 8 = .ok (.aload_n 0, 1) := by decide +kernel
theorem dX7_startsAgree_9 : decode cX7_startsAgree 9 = .ok (.getfield 12, 3) := by decide +kernel
theorem dX7_startsAgree_12 : decode cX7_startsAgree 12 = .ok (.getfield 88, 3) := by decide +kernel
theorem dX7_startsAgree_15 : decode cX7_startsAgree 15 = .ok (.if_icmp .ge 44, 3) := by decide +kernel
theorem dX7_startsAgree_18 : decode cX7_startsAgree 18 = .ok (.aload_n 1, 1) := by decide +kernel
theorem dX7_startsAgree_19 : decode cX7_startsAgree 19 = .ok (.getfield 193, 3) := by decide +kernel
theorem dX7_startsAgree_22 : decode cX7_startsAgree 22 = .ok (.iload_n 2, 1) := by decide +kernel
theorem dX7_startsAgree_23 : decode cX7_startsAgree 23 = .ok (.invokestatic 115, 3) := by decide +kernel
theorem dX7_startsAgree_26 : decode cX7_startsAgree 26 = .ok (.istore_n 3, 1) := by decide +kernel
theorem dX7_startsAgree_27 : decode cX7_startsAgree 27 = .ok (.iload_n 3, 1) := by decide +kernel
theorem dX7_startsAgree_28 : decode cX7_startsAgree 28 = .ok (.aload_n 1, 1) := by decide +kernel
theorem dX7_startsAgree_29 : decode cX7_startsAgree 29 = .ok (.getfield 196, 3) := by decide +kernel
theorem dX7_startsAgree_32 : decode cX7_startsAgree 32 = .ok (.iload_n 2, 1) := by decide +kernel
theorem dX7_startsAgree_33 : decode cX7_startsAgree 33 = .ok (.invokestatic 115, 3) := by decide +kernel
theorem dX7_startsAgree_36 : decode cX7_startsAgree 36 = .ok (.if_icmp .ne 15, 3) := by decide +kernel
theorem dX7_startsAgree_39 : decode cX7_startsAgree 39 = .ok (.aload_n 1, 1) := by decide +kernel
theorem dX7_startsAgree_40 : decode cX7_startsAgree 40 = .ok (.getfield 139, 3) := by decide +kernel
theorem dX7_startsAgree_43 : decode cX7_startsAgree 43 = .ok (.iload_n 2, 1) := by decide +kernel
theorem dX7_startsAgree_44 : decode cX7_startsAgree 44 = .ok (.invokestatic 115, 3) := by decide +kernel
theorem dX7_startsAgree_47 : decode cX7_startsAgree 47 = .ok (.iload_n 3, 1) := by decide +kernel
theorem dX7_startsAgree_48 : decode cX7_startsAgree 48 = .ok (.if_icmp .ge 5, 3) := by decide +kernel
theorem dX7_startsAgree_51 : decode cX7_startsAgree 51 = .ok (.iconst 0, 1) := by decide +kernel
theorem dX7_startsAgree_52 : decode cX7_startsAgree 52 = .ok (.ireturn, 1) := by decide +kernel
theorem dX7_startsAgree_53 : decode cX7_startsAgree 53 = .ok (.iinc 2 1, 3) := by decide +kernel
theorem dX7_startsAgree_56 : decode cX7_startsAgree 56 = .ok (.goto (-49), 3) := by decide +kernel
theorem dX7_startsAgree_59 : decode cX7_startsAgree 59 = .ok (.iconst 1, 1) := by decide +kernel
theorem dX7_startsAgree_60 : decode cX7_startsAgree 60 = .ok (.ireturn, 1) := by decide +kernel
theorem dX7_dependenciesAgree_0 : decode cX7_dependenciesAgree 0 = .ok (.aload_n 0, 1) := by decide +kernel
theorem dX7_dependenciesAgree_1 : decode cX7_dependenciesAgree 1 = .ok (.invokevirtual 135, 3) := by decide +kernel
theorem dX7_dependenciesAgree_4 : decode cX7_dependenciesAgree 4 = .ok (.astore_n 1, 1) := by decide +kernel
theorem dX7_dependenciesAgree_5 : decode cX7_dependenciesAgree 5 = .ok (.iconst 0, 1) := by decide +kernel
theorem dX7_dependenciesAgree_6 : decode cX7_dependenciesAgree 6 = .ok (.istore_n 2, 1) := by decide +kernel
theorem dX7_dependenciesAgree_7 : decode cX7_dependenciesAgree 7 = .ok (.iload_n 2, 1) := by decide +kernel
theorem dX7_dependenciesAgree_8 : decode cX7_dependenciesAgree 8 = .ok (.aload_n 0, 1) := by decide +kernel
theorem dX7_dependenciesAgree_9 : decode cX7_dependenciesAgree 9 = .ok (.getfield 12, 3) := by decide +kernel
theorem dX7_dependenciesAgree_12 : decode cX7_dependenciesAgree 12 = .ok (.getfield 88, 3) := by decide +kernel
theorem dX7_dependenciesAgree_15 : decode cX7_dependenciesAgree 15 = .ok (.if_icmp .ge 60, 3) := by decide +kernel
theorem dX7_dependenciesAgree_18 : decode cX7_dependenciesAgree 18 = .ok (.aload_n 1, 1) := by decide +kernel
theorem dX7_dependenciesAgree_19 : decode cX7_dependenciesAgree 19 = .ok (.getfield 164, 3) := by decide +kernel
theorem dX7_dependenciesAgree_22 : decode cX7_dependenciesAgree 22 = .ok (.iload_n 2, 1) := by decide +kernel
theorem dX7_dependenciesAgree_23 : decode cX7_dependenciesAgree 23 = .ok (.invokestatic 115, 3) := by decide +kernel
theorem dX7_dependenciesAgree_26 : decode cX7_dependenciesAgree 26 = .ok (.istore_n 3, 1) := by decide +kernel
theorem dX7_dependenciesAgree_27 : decode cX7_dependenciesAgree 27 = .ok (.iconst 0, 1) := by decide +kernel
theorem dX7_dependenciesAgree_28 : decode cX7_dependenciesAgree 28 = .ok (.istore 4, 2) := by decide +kernel
theorem dX7_dependenciesAgree_30 : decode cX7_dependenciesAgree 30 = .ok (.iload 4, 2) := by decide +kernel
theorem dX7_dependenciesAgree_32 : decode cX7_dependenciesAgree 32 = .ok (.aload_n 0, 1) := by decide +kernel
theorem dX7_dependenciesAgree_33 : decode cX7_dependenciesAgree 33 = .ok (.getfield 12, 3) := by decide +kernel
theorem dX7_dependenciesAgree_36 : decode cX7_dependenciesAgree 36 = .ok (.getfield 88, 3) := by decide +kernel
theorem dX7_dependenciesAgree_39 : decode cX7_dependenciesAgree 39 = .ok (.if_icmp .ge 30, 3) := by decide +kernel
theorem dX7_dependenciesAgree_42 : decode cX7_dependenciesAgree 42 = .ok (.iload_n 3, 1) := by decide +kernel
theorem dX7_dependenciesAgree_43 : decode cX7_dependenciesAgree 43 = .ok (.iload 4, 2) := by decide +kernel
theorem dX7_dependenciesAgree_45 : decode cX7_dependenciesAgree 45 = .ok (.invokestatic 167, 3) := by decide +kernel
theorem dX7_dependenciesAgree_48 : decode cX7_dependenciesAgree 48 = .ok (.aload_n 0, 1) := by decide +kernel
theorem dX7_dependenciesAgree_49 : decode cX7_dependenciesAgree 49 = .ok (.getfield 12, 3) := by decide +kernel
theorem dX7_dependenciesAgree_52 : decode cX7_dependenciesAgree 52 = .ok (.iload_n 2, 1) := by decide +kernel
theorem dX7_dependenciesAgree_53 : decode cX7_dependenciesAgree 53 = .ok (.iload 4, 2) := by decide +kernel
theorem dX7_dependenciesAgree_55 : decode cX7_dependenciesAgree 55 = .ok (.invokevirtual 161, 3) := by decide +kernel
theorem dX7_dependenciesAgree_58 : decode cX7_dependenciesAgree 58 = .ok (.if_icmp .eq 5, 3) := by decide +kernel
theorem dX7_dependenciesAgree_61 : decode cX7_dependenciesAgree 61 = .ok (.iconst 0, 1) := by decide +kernel
theorem dX7_dependenciesAgree_62 : decode cX7_dependenciesAgree 62 = .ok (.ireturn, 1) := by decide +kernel
theorem dX7_dependenciesAgree_63 : decode cX7_dependenciesAgree 63 = .ok (.iinc 4 1, 3) := by decide +kernel
theorem dX7_dependenciesAgree_66 : decode cX7_dependenciesAgree 66 = .ok (.goto (-36), 3) := by decide +kernel
theorem dX7_dependenciesAgree_69 : decode cX7_dependenciesAgree 69 = .ok (.iinc 2 1, 3) := by decide +kernel
theorem dX7_dependenciesAgree_72 : decode cX7_dependenciesAgree 72 = .ok (.goto (-65), 3) := by decide +kernel
theorem dX7_dependenciesAgree_75 : decode cX7_dependenciesAgree 75 = .ok (.iconst 1, 1) := by decide +kernel
theorem dX7_dependenciesAgree_76 : decode cX7_dependenciesAgree 76 = .ok (.ireturn, 1) := by decide +kernel
theorem dX7_workloadsAgree_0 : decode cX7_workloadsAgree 0 = .ok (.aload_n 0, 1) := by decide +kernel
theorem dX7_workloadsAgree_1 : decode cX7_workloadsAgree 1 = .ok (.invokevirtual 135, 3) := by decide +kernel
theorem dX7_workloadsAgree_4 : decode cX7_workloadsAgree 4 = .ok (.astore_n 1, 1) := by decide +kernel
theorem dX7_workloadsAgree_5 : decode cX7_workloadsAgree 5 = .ok (.iconst 0, 1) := by decide +kernel
theorem dX7_workloadsAgree_6 : decode cX7_workloadsAgree 6 = .ok (.istore_n 2, 1) := by decide +kernel
theorem dX7_workloadsAgree_7 : decode cX7_workloadsAgree 7 = .ok (.iload_n 2, 1) := by decide +kernel
theorem dX7_workloadsAgree_8 : decode cX7_workloadsAgree 8 = .ok (.iconst 3, 1) := by decide +kernel
theorem dX7_workloadsAgree_9 : decode cX7_workloadsAgree 9 = .ok (.if_icmp .ge 27, 3) := by decide +kernel
theorem dX7_workloadsAgree_12 : decode cX7_workloadsAgree 12 = .ok (.aload_n 0, 1) := by decide +kernel
theorem dX7_workloadsAgree_13 : decode cX7_workloadsAgree 13 = .ok (.getfield 12, 3) := by decide +kernel
theorem dX7_workloadsAgree_16 : decode cX7_workloadsAgree 16 = .ok (.iload_n 2, 1) := by decide +kernel
theorem dX7_workloadsAgree_17 : decode cX7_workloadsAgree 17 = .ok (.invokevirtual 225, 3) := by decide +kernel
theorem dX7_workloadsAgree_20 : decode cX7_workloadsAgree 20 = .ok (.aload_n 1, 1) := by decide +kernel
theorem dX7_workloadsAgree_21 : decode cX7_workloadsAgree 21 = .ok (.iload_n 2, 1) := by decide +kernel
theorem dX7_workloadsAgree_22 : decode cX7_workloadsAgree 22 = .ok (.invokevirtual 228, 3) := by decide +kernel
theorem dX7_workloadsAgree_25 : decode cX7_workloadsAgree 25 = .ok (.if_icmp .eq 5, 3) := by decide +kernel
theorem dX7_workloadsAgree_28 : decode cX7_workloadsAgree 28 = .ok (.iconst 0, 1) := by decide +kernel
theorem dX7_workloadsAgree_29 : decode cX7_workloadsAgree 29 = .ok (.ireturn, 1) := by decide +kernel
theorem dX7_workloadsAgree_30 : decode cX7_workloadsAgree 30 = .ok (.iinc 2 1, 3) := by decide +kernel
theorem dX7_workloadsAgree_33 : decode cX7_workloadsAgree 33 = .ok (.goto (-26), 3) := by decide +kernel
theorem dX7_workloadsAgree_36 : decode cX7_workloadsAgree 36 = .ok (.iconst 1, 1) := by decide +kernel
theorem dX7_workloadsAgree_37 : decode cX7_workloadsAgree 37 = .ok (.ireturn, 1) := by decide +kernel
theorem dX7_requireTask_0 : decode cX7_requireTask 0 = .ok (.aload_n 0, 1) := by decide +kernel
theorem dX7_requireTask_1 : decode cX7_requireTask 1 = .ok (.getfield 12, 3) := by decide +kernel
theorem dX7_requireTask_4 : decode cX7_requireTask 4 = .ok (.iload_n 1, 1) := by decide +kernel
theorem dX7_requireTask_5 : decode cX7_requireTask 5 = .ok (.invokevirtual 80, 3) := by decide +kernel
theorem dX7_requireTask_8 : decode cX7_requireTask 8 = .ok (.invokestatic 69, 3) := by decide +kernel
theorem dX7_requireTask_11 : decode cX7_requireTask 11 = .ok (.return_, 1) := by decide +kernel
theorem dX7_requireResource_0 : decode cX7_requireResource 0 = .ok (.iload_n 0, 1) := by decide +kernel
theorem dX7_requireResource_1 : decode cX7_requireResource 1 = .ok (.iconst 0, 1) := by decide +kernel
theorem dX7_requireResource_2 : decode cX7_requireResource 2 = .ok (.iconst 2, 1) := by decide +kernel
theorem dX7_requireResource_3 : decode cX7_requireResource 3 = .ok (.invokestatic 179, 3) := by decide +kernel
theorem dX7_requireResource_6 : decode cX7_requireResource 6 = .ok (.ifCond .ne 14, 3) := by decide +kernel
theorem dX7_requireResource_9 : decode cX7_requireResource 9 = .ok (.new 297, 3) := by decide +kernel
theorem dX7_requireResource_12 : decode cX7_requireResource 12 = .ok (.dup, 1) := by decide +kernel
theorem dX7_requireResource_13 : decode cX7_requireResource 13 = .ok (.ldc_w 390, 3) := by decide +kernel
theorem dX7_requireResource_16 : decode cX7_requireResource 16 = .ok (.invokespecial 301, 3) := by decide +kernel
theorem dX7_requireResource_19 : decode cX7_requireResource 19 = .ok (.athrow, 1) := by decide +kernel
theorem dX7_requireResource_20 : decode cX7_requireResource 20 = .ok (.return_, 1) := by decide +kernel
theorem dX7_requireDay_0 : decode cX7_requireDay 0 = .ok (.iload_n 0, 1) := by decide +kernel
theorem dX7_requireDay_1 : decode cX7_requireDay 1 = .ok (.ifCond .ge 14, 3) := by decide +kernel
theorem dX7_requireDay_4 : decode cX7_requireDay 4 = .ok (.new 297, 3) := by decide +kernel
theorem dX7_requireDay_7 : decode cX7_requireDay 7 = .ok (.dup, 1) := by decide +kernel
theorem dX7_requireDay_8 : decode cX7_requireDay 8 = .ok (.ldc_w 392, 3) := by decide +kernel
theorem dX7_requireDay_11 : decode cX7_requireDay 11 = .ok (.invokespecial 301, 3) := by decide +kernel
theorem dX7_requireDay_14 : decode cX7_requireDay 14 = .ok (.athrow, 1) := by decide +kernel
theorem dX7_requireDay_15 : decode cX7_requireDay 15 = .ok (.return_, 1) := by decide +kernel
theorem dX7_requireBaselineStart_0 : decode cX7_requireBaselineStart 0 = .ok (.aload_n 0, 1) := by decide +kernel
theorem dX7_requireBaselineStart_1 : decode cX7_requireBaselineStart 1 = .ok (.getfield 12, 3) := by decide +kernel
theorem dX7_requireBaselineStart_4 : decode cX7_requireBaselineStart 4 = .ok (.iload_n 1, 1) := by decide +kernel
theorem dX7_requireBaselineStart_5 : decode cX7_requireBaselineStart 5 = .ok (.invokevirtual 246, 3) := by decide +kernel
theorem dX7_requireBaselineStart_8 : decode cX7_requireBaselineStart 8 = .ok (.ifCond .ne 14, 3) := by decide +kernel
theorem dX7_requireBaselineStart_11 : decode cX7_requireBaselineStart 11 = .ok (.new 183, 3) := by decide +kernel
theorem dX7_requireBaselineStart_14 : decode cX7_requireBaselineStart 14 = .ok (.dup, 1) := by decide +kernel
theorem dX7_requireBaselineStart_15 : decode cX7_requireBaselineStart 15 = .ok (.ldc_w 394, 3) := by decide +kernel
theorem dX7_requireBaselineStart_18 : decode cX7_requireBaselineStart 18 = .ok (.invokespecial 187, 3) := by decide +kernel
theorem dX7_requireBaselineStart_21 : decode cX7_requireBaselineStart 21 = .ok (.athrow, 1) := by decide +kernel
theorem dX7_requireBaselineStart_22 : decode cX7_requireBaselineStart 22 = .ok (.return_, 1) := by decide +kernel
theorem dX7_refuse_0 : decode cX7_refuse 0 = .ok (.iload_n 0, 1) := by decide +kernel
theorem dX7_refuse_1 : decode cX7_refuse 1 = .ok (.bipush 105, 2) := by decide +kernel
theorem dX7_refuse_3 : decode cX7_refuse 3 = .ok (.if_icmp .ne 14, 3) := by decide +kernel
theorem dX7_refuse_6 : decode cX7_refuse 6 = .ok (.new 284, 3) := by decide +kernel
theorem dX7_refuse_9 : decode cX7_refuse 9 = .ok (.dup, 1) := by decide +kernel
theorem dX7_refuse_10 : decode cX7_refuse 10 = .ok (.ldc_w 398, 3) := by decide +kernel
theorem dX7_refuse_13 : decode cX7_refuse 13 = .ok (.invokespecial 288, 3) := by decide +kernel
theorem dX7_refuse_16 : decode cX7_refuse 16 = .ok (.athrow, 1) := by decide +kernel
theorem dX7_refuse_17 : decode cX7_refuse 17 = .ok (.iload_n 0, 1) := by decide +kernel
theorem dX7_refuse_18 : decode cX7_refuse 18 = .ok (.bipush 97, 2) := by decide +kernel
theorem dX7_refuse_20 : decode cX7_refuse 20 = .ok (.if_icmp .ne 14, 3) := by decide +kernel
theorem dX7_refuse_23 : decode cX7_refuse 23 = .ok (.new 297, 3) := by decide +kernel
theorem dX7_refuse_26 : decode cX7_refuse 26 = .ok (.dup, 1) := by decide +kernel
theorem dX7_refuse_27 : decode cX7_refuse 27 = .ok (.ldc_w 400, 3) := by decide +kernel
theorem dX7_refuse_30 : decode cX7_refuse 30 = .ok (.invokespecial 301, 3) := by decide +kernel
theorem dX7_refuse_33 : decode cX7_refuse 33 = .ok (.athrow, 1) := by decide +kernel
theorem dX7_refuse_34 : decode cX7_refuse 34 = .ok (.iload_n 0, 1) := by decide +kernel
theorem dX7_refuse_35 : decode cX7_refuse 35 = .ok (.bipush 115, 2) := by decide +kernel
theorem dX7_refuse_37 : decode cX7_refuse 37 = .ok (.if_icmp .ne 14, 3) := by decide +kernel
theorem dX7_refuse_40 : decode cX7_refuse 40 = .ok (.new 303, 3) := by decide +kernel
theorem dX7_refuse_43 : decode cX7_refuse 43 = .ok (.dup, 1) := by decide +kernel
theorem dX7_refuse_44 : decode cX7_refuse 44 = .ok (.ldc_w 402, 3) := by decide +kernel
theorem dX7_refuse_47 : decode cX7_refuse 47 = .ok (.invokespecial 307, 3) := by decide +kernel
theorem dX7_refuse_50 : decode cX7_refuse 50 = .ok (.athrow, 1) := by decide +kernel
theorem dX7_refuse_51 : decode cX7_refuse 51 = .ok (.iload_n 0, 1) := by decide +kernel
theorem dX7_refuse_52 : decode cX7_refuse 52 = .ok (.bipush 117, 2) := by decide +kernel
theorem dX7_refuse_54 : decode cX7_refuse 54 = .ok (.if_icmp .ne 14, 3) := by decide +kernel
theorem dX7_refuse_57 : decode cX7_refuse 57 = .ok (.new 404, 3) := by decide +kernel
theorem dX7_refuse_60 : decode cX7_refuse 60 = .ok (.dup, 1) := by decide +kernel
theorem dX7_refuse_61 : decode cX7_refuse 61 = .ok (.ldc_w 406, 3) := by decide +kernel
theorem dX7_refuse_64 : decode cX7_refuse 64 = .ok (.invokespecial 408, 3) := by decide +kernel
theorem dX7_refuse_67 : decode cX7_refuse 67 = .ok (.athrow, 1) := by decide +kernel
theorem dX7_refuse_68 : decode cX7_refuse 68 = .ok (.return_, 1) := by decide +kernel
theorem dX7_isWithin_0 : decode cX7_isWithin 0 = .ok (.iload_n 0, 1) := by decide +kernel
theorem dX7_isWithin_1 : decode cX7_isWithin 1 = .ok (.iload_n 1, 1) := by decide +kernel
theorem dX7_isWithin_2 : decode cX7_isWithin 2 = .ok (.if_icmp .lt 12, 3) := by decide +kernel
theorem dX7_isWithin_5 : decode cX7_isWithin 5 = .ok (.iload_n 0, 1) := by decide +kernel
theorem dX7_isWithin_6 : decode cX7_isWithin 6 = .ok (.iload_n 2, 1) := by decide +kernel
theorem dX7_isWithin_7 : decode cX7_isWithin 7 = .ok (.if_icmp .gt 7, 3) := by decide +kernel
theorem dX7_isWithin_10 : decode cX7_isWithin 10 = .ok (.iconst 1, 1) := by decide +kernel
theorem dX7_isWithin_11 : decode cX7_isWithin 11 = .ok (.goto 4, 3) := by decide +kernel
theorem dX7_isWithin_14 : decode cX7_isWithin 14 = .ok (.iconst 0, 1) := by decide +kernel
theorem dX7_isWithin_15 : decode cX7_isWithin 15 = .ok (.ireturn, 1) := by decide +kernel
theorem dX7_hasBit_0 : decode cX7_hasBit 0 = .ok (.iload_n 0, 1) := by decide +kernel
theorem dX7_hasBit_1 : decode cX7_hasBit 1 = .ok (.iload_n 1, 1) := by decide +kernel
theorem dX7_hasBit_2 : decode cX7_hasBit 2 = .ok (.ishr, 1) := by decide +kernel
theorem dX7_hasBit_3 : decode cX7_hasBit 3 = .ok (.iconst 1, 1) := by decide +kernel
theorem dX7_hasBit_4 : decode cX7_hasBit 4 = .ok (.iand, 1) := by decide +kernel
theorem dX7_hasBit_5 : decode cX7_hasBit 5 = .ok (.iconst 1, 1) := by decide +kernel
theorem dX7_hasBit_6 : decode cX7_hasBit 6 = .ok (.if_icmp .ne 7, 3) := by decide +kernel
theorem dX7_hasBit_9 : decode cX7_hasBit 9 = .ok (.iconst 1, 1) := by decide +kernel
theorem dX7_hasBit_10 : decode cX7_hasBit 10 = .ok (.goto 4, 3) := by decide +kernel
theorem dX7_hasBit_13 : decode cX7_hasBit 13 = .ok (.iconst 0, 1) := by decide +kernel
theorem dX7_hasBit_14 : decode cX7_hasBit 14 = .ok (.ireturn, 1) := by decide +kernel
theorem dX7_at_0 : decode cX7_at 0 = .ok (.iload_n 1, 1) := by decide +kernel
theorem dX7_at_1 : decode cX7_at 1 = .ok (.ifCond .lt 15, 3) := by decide +kernel
theorem dX7_at_4 : decode cX7_at 4 = .ok (.iload_n 1, 1) := by decide +kernel
theorem dX7_at_5 : decode cX7_at 5 = .ok (.aload_n 0, 1) := by decide +kernel
theorem dX7_at_6 : decode cX7_at 6 = .ok (.arraylength, 1) := by decide +kernel
theorem dX7_at_7 : decode cX7_at 7 = .ok (.if_icmp .ge 9, 3) := by decide +kernel
theorem dX7_at_10 : decode cX7_at 10 = .ok (.aload_n 0, 1) := by decide +kernel
theorem dX7_at_11 : decode cX7_at 11 = .ok (.iload_n 1, 1) := by decide +kernel
theorem dX7_at_12 : decode cX7_at 12 = .ok (.iaload, 1) := by decide +kernel
theorem dX7_at_13 : decode cX7_at 13 = .ok (.goto 4, 3) := by decide +kernel
theorem dX7_at_16 : decode cX7_at 16 = .ok (.iconst 0, 1) := by decide +kernel
theorem dX7_at_17 : decode cX7_at 17 = .ok (.ireturn, 1) := by decide +kernel
theorem dX7_put_0 : decode cX7_put 0 = .ok (.iload_n 1, 1) := by decide +kernel
theorem dX7_put_1 : decode cX7_put 1 = .ok (.ifCond .lt 13, 3) := by decide +kernel
theorem dX7_put_4 : decode cX7_put 4 = .ok (.iload_n 1, 1) := by decide +kernel
theorem dX7_put_5 : decode cX7_put 5 = .ok (.aload_n 0, 1) := by decide +kernel
theorem dX7_put_6 : decode cX7_put 6 = .ok (.arraylength, 1) := by decide +kernel
theorem dX7_put_7 : decode cX7_put 7 = .ok (.if_icmp .ge 7, 3) := by decide +kernel
theorem dX7_put_10 : decode cX7_put 10 = .ok (.aload_n 0, 1) := by decide +kernel
theorem dX7_put_11 : decode cX7_put 11 = .ok (.iload_n 1, 1) := by decide +kernel
theorem dX7_put_12 : decode cX7_put 12 = .ok (.iload_n 2, 1) := by decide +kernel
theorem dX7_put_13 : decode cX7_put 13 = .ok (.iastore, 1) := by decide +kernel
theorem dX7_put_14 : decode cX7_put 14 = .ok (.return_, 1) := by decide +kernel
theorem dX7_charAt_0 : decode cX7_charAt 0 = .ok (.iload_n 1, 1) := by decide +kernel
theorem dX7_charAt_1 : decode cX7_charAt 1 = .ok (.ifCond .lt 15, 3) := by decide +kernel
theorem dX7_charAt_4 : decode cX7_charAt 4 = .ok (.iload_n 1, 1) := by decide +kernel
theorem dX7_charAt_5 : decode cX7_charAt 5 = .ok (.aload_n 0, 1) := by decide +kernel
theorem dX7_charAt_6 : decode cX7_charAt 6 = .ok (.arraylength, 1) := by decide +kernel
theorem dX7_charAt_7 : decode cX7_charAt 7 = .ok (.if_icmp .ge 9, 3) := by decide +kernel
theorem dX7_charAt_10 : decode cX7_charAt 10 = .ok (.aload_n 0, 1) := by decide +kernel
theorem dX7_charAt_11 : decode cX7_charAt 11 = .ok (.iload_n 1, 1) := by decide +kernel
theorem dX7_charAt_12 : decode cX7_charAt 12 = .ok (.caload, 1) := by decide +kernel
theorem dX7_charAt_13 : decode cX7_charAt 13 = .ok (.goto 5, 3) := by decide +kernel
theorem dX7_charAt_16 : decode cX7_charAt 16 = .ok (.bipush 32, 2) := by decide +kernel
theorem dX7_charAt_18 : decode cX7_charAt 18 = .ok (.ireturn, 1) := by decide +kernel
theorem dX7_copyRow_0 : decode cX7_copyRow 0 = .ok (.iconst 0, 1) := by decide +kernel
theorem dX7_copyRow_1 : decode cX7_copyRow 1 = .ok (.istore_n 2, 1) := by decide +kernel
theorem dX7_copyRow_2 : decode cX7_copyRow 2 = .ok (.iload_n 2, 1) := by decide +kernel
theorem dX7_copyRow_3 : decode cX7_copyRow 3 = .ok (.aload_n 0, 1) := by decide +kernel
theorem dX7_copyRow_4 : decode cX7_copyRow 4 = .ok (.arraylength, 1) := by decide +kernel
theorem dX7_copyRow_5 : decode cX7_copyRow 5 = .ok (.if_icmp .ge 21, 3) := by decide +kernel
theorem dX7_copyRow_8 : decode cX7_copyRow 8 = .ok (.iload_n 2, 1) := by decide +kernel
theorem dX7_copyRow_9 : decode cX7_copyRow 9 = .ok (.aload_n 1, 1) := by decide +kernel
theorem dX7_copyRow_10 : decode cX7_copyRow 10 = .ok (.arraylength, 1) := by decide +kernel
theorem dX7_copyRow_11 : decode cX7_copyRow 11 = .ok (.if_icmp .ge 15, 3) := by decide +kernel
theorem dX7_copyRow_14 : decode cX7_copyRow 14 = .ok (.aload_n 1, 1) := by decide +kernel
theorem dX7_copyRow_15 : decode cX7_copyRow 15 = .ok (.iload_n 2, 1) := by decide +kernel
theorem dX7_copyRow_16 : decode cX7_copyRow 16 = .ok (.aload_n 0, 1) := by decide +kernel
theorem dX7_copyRow_17 : decode cX7_copyRow 17 = .ok (.iload_n 2, 1) := by decide +kernel
theorem dX7_copyRow_18 : decode cX7_copyRow 18 = .ok (.iaload, 1) := by decide +kernel
theorem dX7_copyRow_19 : decode cX7_copyRow 19 = .ok (.iastore, 1) := by decide +kernel
theorem dX7_copyRow_20 : decode cX7_copyRow 20 = .ok (.iinc 2 1, 3) := by decide +kernel
theorem dX7_copyRow_23 : decode cX7_copyRow 23 = .ok (.goto (-21), 3) := by decide +kernel
theorem dX7_copyRow_26 : decode cX7_copyRow 26 = .ok (.return_, 1) := by decide +kernel
theorem dX7_fillRow_0 : decode cX7_fillRow 0 = .ok (.iconst 0, 1) := by decide +kernel
theorem dX7_fillRow_1 : decode cX7_fillRow 1 = .ok (.istore_n 2, 1) := by decide +kernel
theorem dX7_fillRow_2 : decode cX7_fillRow 2 = .ok (.iload_n 2, 1) := by decide +kernel
theorem dX7_fillRow_3 : decode cX7_fillRow 3 = .ok (.aload_n 0, 1) := by decide +kernel
theorem dX7_fillRow_4 : decode cX7_fillRow 4 = .ok (.arraylength, 1) := by decide +kernel
theorem dX7_fillRow_5 : decode cX7_fillRow 5 = .ok (.if_icmp .ge 13, 3) := by decide +kernel
theorem dX7_fillRow_8 : decode cX7_fillRow 8 = .ok (.aload_n 0, 1) := by decide +kernel
theorem dX7_fillRow_9 : decode cX7_fillRow 9 = .ok (.iload_n 2, 1) := by decide +kernel
theorem dX7_fillRow_10 : decode cX7_fillRow 10 = .ok (.iload_n 1, 1) := by decide +kernel
theorem dX7_fillRow_11 : decode cX7_fillRow 11 = .ok (.iastore, 1) := by decide +kernel
theorem dX7_fillRow_12 : decode cX7_fillRow 12 = .ok (.iinc 2 1, 3) := by decide +kernel
theorem dX7_fillRow_15 : decode cX7_fillRow 15 = .ok (.goto (-13), 3) := by decide +kernel
theorem dX7_fillRow_18 : decode cX7_fillRow 18 = .ok (.return_, 1) := by decide +kernel
theorem dX7_closeGap_0 : decode cX7_closeGap 0 = .ok (.iload_n 1, 1) := by decide +kernel
theorem dX7_closeGap_1 : decode cX7_closeGap 1 = .ok (.iconst 0, 1) := by decide +kernel
theorem dX7_closeGap_2 : decode cX7_closeGap 2 = .ok (.invokestatic 220, 3) := by decide +kernel
theorem dX7_closeGap_5 : decode cX7_closeGap 5 = .ok (.istore_n 2, 1) := by decide +kernel
theorem dX7_closeGap_6 : decode cX7_closeGap 6 = .ok (.iload_n 2, 1) := by decide +kernel
theorem dX7_closeGap_7 : decode cX7_closeGap 7 = .ok (.iconst 1, 1) := by decide +kernel
theorem dX7_closeGap_8 : decode cX7_closeGap 8 = .ok (.iadd, 1) := by decide +kernel
theorem dX7_closeGap_9 : decode cX7_closeGap 9 = .ok (.aload_n 0, 1) := by decide +kernel
theorem dX7_closeGap_10 : decode cX7_closeGap 10 = .ok (.arraylength, 1) := by decide +kernel
theorem dX7_closeGap_11 : decode cX7_closeGap 11 = .ok (.if_icmp .ge 17, 3) := by decide +kernel
theorem dX7_closeGap_14 : decode cX7_closeGap 14 = .ok (.aload_n 0, 1) := by decide +kernel
theorem dX7_closeGap_15 : decode cX7_closeGap 15 = .ok (.iload_n 2, 1) := by decide +kernel
theorem dX7_closeGap_16 : decode cX7_closeGap 16 = .ok (.aload_n 0, 1) := by decide +kernel
theorem dX7_closeGap_17 : decode cX7_closeGap 17 = .ok (.iload_n 2, 1) := by decide +kernel
theorem dX7_closeGap_18 : decode cX7_closeGap 18 = .ok (.iconst 1, 1) := by decide +kernel
theorem dX7_closeGap_19 : decode cX7_closeGap 19 = .ok (.iadd, 1) := by decide +kernel
theorem dX7_closeGap_20 : decode cX7_closeGap 20 = .ok (.iaload, 1) := by decide +kernel
theorem dX7_closeGap_21 : decode cX7_closeGap 21 = .ok (.iastore, 1) := by decide +kernel
theorem dX7_closeGap_22 : decode cX7_closeGap 22 = .ok (.iinc 2 1, 3) := by decide +kernel
theorem dX7_closeGap_25 : decode cX7_closeGap 25 = .ok (.goto (-19), 3) := by decide +kernel
theorem dX7_closeGap_28 : decode cX7_closeGap 28 = .ok (.return_, 1) := by decide +kernel
