theorem dX8_openTicks_0 : decode cX8_openTicks 0 = .ok (.aload_n 0, 1) := by decide +kernel
theorem dX8_openTicks_1 : decode cX8_openTicks 1 = .ok (.getfield 10, 3) := by decide +kernel
theorem dX8_openTicks_4 : decode cX8_openTicks 4 = .ok (.iload_n 1, 1) := by decide +kernel
theorem dX8_openTicks_5 : decode cX8_openTicks 5 = .ok (.invokevirtual 72, 3) := by decide +kernel
theorem dX8_openTicks_8 : decode cX8_openTicks 8 = .ok (.astore_n 2, 1) := by decide +kernel
theorem dX8_openTicks_9 : decode cX8_openTicks 9 = .ok (.aload_n 2, 1) := by decide +kernel
theorem dX8_openTicks_10 : decode cX8_openTicks 10 = .ok (.ifnonnull 9, 3) := by decide +kernel
theorem dX8_openTicks_13 : decode cX8_openTicks 13 = .ok (.sipush (-1001), 3) := by decide +kernel
theorem dX8_openTicks_16 : decode cX8_openTicks 16 = .ok (.goto 7, 3) := by decide +kernel
theorem dX8_openTicks_19 : decode cX8_openTicks 19 = .ok (.aload_n 2, 1) := by decide +kernel
theorem dX8_openTicks_20 : decode cX8_openTicks 20 = .ok (.getfield 186, 3) := by decide +kernel
theorem dX8_openTicks_23 : decode cX8_openTicks 23 = .ok (.ireturn, 1) := by decide +kernel
theorem dX8_chamberWater_0 : decode cX8_chamberWater 0 = .ok (.aload_n 0, 1) := by decide +kernel
theorem dX8_chamberWater_1 : decode cX8_chamberWater 1 = .ok (.getfield 10, 3) := by decide +kernel
theorem dX8_chamberWater_4 : decode cX8_chamberWater 4 = .ok (.iload_n 1, 1) := by decide +kernel
theorem dX8_chamberWater_5 : decode cX8_chamberWater 5 = .ok (.invokevirtual 72, 3) := by decide +kernel
theorem dX8_chamberWater_8 : decode cX8_chamberWater 8 = .ok (.astore_n 2, 1) := by decide +kernel
theorem dX8_chamberWater_9 : decode cX8_chamberWater 9 = .ok (.aload_n 2, 1) := by decide +kernel
theorem dX8_chamberWater_10 : decode cX8_chamberWater 10 = .ok (.ifnonnull 9, 3) := by decide +kernel
theorem dX8_chamberWater_13 : decode cX8_chamberWater 13 = .ok (.sipush (-1001), 3) := by decide +kernel
theorem dX8_chamberWater_16 : decode cX8_chamberWater 16 = .ok (.goto 10, 3) := by decide +kernel
theorem dX8_chamberWater_19 : decode cX8_chamberWater 19 = .ok (.aload_n 2, 1) := by decide +kernel
theorem dX8_chamberWater_20 : decode cX8_chamberWater 20 = .ok (.getfield 86, 3) := by decide +kernel
theorem dX8_chamberWater_23 : decode cX8_chamberWater 23 = .ok (.getfield 90, 3) := by decide +kernel
theorem dX8_chamberWater_26 : decode cX8_chamberWater 26 = .ok (.ireturn, 1) := by decide +kernel
theorem dX8_air_0 : decode cX8_air 0 = .ok (.aload_n 0, 1) := by decide +kernel
theorem dX8_air_1 : decode cX8_air 1 = .ok (.getfield 10, 3) := by decide +kernel
theorem dX8_air_4 : decode cX8_air 4 = .ok (.iload_n 1, 1) := by decide +kernel
theorem dX8_air_5 : decode cX8_air 5 = .ok (.invokevirtual 72, 3) := by decide +kernel
theorem dX8_air_8 : decode cX8_air 8 = .ok (.astore_n 2, 1) := by decide +kernel
theorem dX8_air_9 : decode cX8_air 9 = .ok (.aload_n 2, 1) := by decide +kernel
theorem dX8_air_10 : decode cX8_air 10 = .ok (.ifnonnull 9, 3) := by decide +kernel
theorem dX8_air_13 : decode cX8_air 13 = .ok (.sipush (-1001), 3) := by decide +kernel
theorem dX8_air_16 : decode cX8_air 16 = .ok (.goto 10, 3) := by decide +kernel
theorem dX8_air_19 : decode cX8_air 19 = .ok (.aload_n 2, 1) := by decide +kernel
theorem dX8_air_20 : decode cX8_air 20 = .ok (.getfield 86, 3) := by decide +kernel
theorem dX8_air_23 : decode cX8_air 23 = .ok (.getfield 189, 3) := by decide +kernel
theorem dX8_air_26 : decode cX8_air 26 = .ok (.ireturn, 1) := by decide +kernel
theorem dX8_chamberHead_0 : decode cX8_chamberHead 0 = .ok (.aload_n 0, 1) := by decide +kernel
theorem dX8_chamberHead_1 : decode cX8_chamberHead 1 = .ok (.getfield 10, 3) := by decide +kernel
theorem dX8_chamberHead_4 : decode cX8_chamberHead 4 = .ok (.iload_n 1, 1) := by decide +kernel
theorem dX8_chamberHead_5 : decode cX8_chamberHead 5 = .ok (.invokevirtual 72, 3) := by decide +kernel
theorem dX8_chamberHead_8 : decode cX8_chamberHead 8 = .ok (.astore_n 2, 1) := by decide +kernel
theorem dX8_chamberHead_9 : decode cX8_chamberHead 9 = .ok (.aload_n 2, 1) := by decide +kernel
theorem dX8_chamberHead_10 : decode cX8_chamberHead 10 = .ok (.ifnonnull 9, 3) := by decide +kernel
theorem dX8_chamberHead_13 : decode cX8_chamberHead 13 = .ok (.sipush (-1001), 3) := by decide +kernel
theorem dX8_chamberHead_16 : decode cX8_chamberHead 16 = .ok (.goto 10, 3) := by decide +kernel
theorem dX8_chamberHead_19 : decode cX8_chamberHead 19 = .ok (.aload_n 2, 1) := by decide +kernel
theorem dX8_chamberHead_20 : decode cX8_chamberHead 20 = .ok (.getfield 86, 3) := by decide +kernel
theorem dX8_chamberHead_23 : decode cX8_chamberHead 23 = .ok (.invokevirtual 192, 3) := by decide +kernel
theorem dX8_chamberHead_26 : decode cX8_chamberHead 26 = .ok (.ireturn, 1) := by decide +kernel
theorem dX8_beats_0 : decode cX8_beats 0 = .ok (.aload_n 0, 1) := by decide +kernel
theorem dX8_beats_1 : decode cX8_beats 1 = .ok (.getfield 10, 3) := by decide +kernel
theorem dX8_beats_4 : decode cX8_beats 4 = .ok (.iload_n 1, 1) := by decide +kernel
theorem dX8_beats_5 : decode cX8_beats 5 = .ok (.invokevirtual 72, 3) := by decide +kernel
theorem dX8_beats_8 : decode cX8_beats 8 = .ok (.astore_n 2, 1) := by decide +kernel
theorem dX8_beats_9 : decode cX8_beats 9 = .ok (.aload_n 2, 1) := by decide +kernel
theorem dX8_beats_10 : decode cX8_beats 10 = .ok (.ifnonnull 9, 3) := by decide +kernel
theorem dX8_beats_13 : decode cX8_beats 13 = .ok (.sipush (-1001), 3) := by decide +kernel
theorem dX8_beats_16 : decode cX8_beats 16 = .ok (.goto 10, 3) := by decide +kernel
theorem dX8_beats_19 : decode cX8_beats 19 = .ok (.aload_n 2, 1) := by decide +kernel
theorem dX8_beats_20 : decode cX8_beats 20 = .ok (.getfield 195, 3) := by decide +kernel
theorem dX8_beats_23 : decode cX8_beats 23 = .ok (.getfield 199, 3) := by decide +kernel
theorem dX8_beats_26 : decode cX8_beats 26 = .ok (.ireturn, 1) := by decide +kernel
theorem dX8_wasted_0 : decode cX8_wasted 0 = .ok (.aload_n 0, 1) := by decide +kernel
theorem dX8_wasted_1 : decode cX8_wasted 1 = .ok (.getfield 10, 3) := by decide +kernel
theorem dX8_wasted_4 : decode cX8_wasted 4 = .ok (.iload_n 1, 1) := by decide +kernel
theorem dX8_wasted_5 : decode cX8_wasted 5 = .ok (.invokevirtual 72, 3) := by decide +kernel
theorem dX8_wasted_8 : decode cX8_wasted 8 = .ok (.astore_n 2, 1) := by decide +kernel
theorem dX8_wasted_9 : decode cX8_wasted 9 = .ok (.aload_n 2, 1) := by decide +kernel
theorem dX8_wasted_10 : decode cX8_wasted 10 = .ok (.ifnonnull 9, 3) := by decide +kernel
theorem dX8_wasted_13 : decode cX8_wasted 13 = .ok (.sipush (-1001), 3) := by decide +kernel
theorem dX8_wasted_16 : decode cX8_wasted 16 = .ok (.goto 10, 3) := by decide +kernel
theorem dX8_wasted_19 : decode cX8_wasted 19 = .ok (.aload_n 2, 1) := by decide +kernel
theorem dX8_wasted_20 : decode cX8_wasted 20 = .ok (.getfield 195, 3) := by decide +kernel
theorem dX8_wasted_23 : decode cX8_wasted 23 = .ok (.getfield 204, 3) := by decide +kernel
theorem dX8_wasted_26 : decode cX8_wasted 26 = .ok (.ireturn, 1) := by decide +kernel
theorem dX8_relieved_0 : decode cX8_relieved 0 = .ok (.aload_n 0, 1) := by decide +kernel
theorem dX8_relieved_1 : decode cX8_relieved 1 = .ok (.getfield 10, 3) := by decide +kernel
theorem dX8_relieved_4 : decode cX8_relieved 4 = .ok (.iload_n 1, 1) := by decide +kernel
theorem dX8_relieved_5 : decode cX8_relieved 5 = .ok (.invokevirtual 72, 3) := by decide +kernel
theorem dX8_relieved_8 : decode cX8_relieved 8 = .ok (.astore_n 2, 1) := by decide +kernel
theorem dX8_relieved_9 : decode cX8_relieved 9 = .ok (.aload_n 2, 1) := by decide +kernel
theorem dX8_relieved_10 : decode cX8_relieved 10 = .ok (.ifnonnull 9, 3) := by decide +kernel
theorem dX8_relieved_13 : decode cX8_relieved 13 = .ok (.sipush (-1001), 3) := by decide +kernel
theorem dX8_relieved_16 : decode cX8_relieved 16 = .ok (.goto 10, 3) := by decide +kernel
theorem dX8_relieved_19 : decode cX8_relieved 19 = .ok (.aload_n 2, 1) := by decide +kernel
theorem dX8_relieved_20 : decode cX8_relieved 20 = .ok (.getfield 195, 3) := by decide +kernel
theorem dX8_relieved_23 : decode cX8_relieved 23 = .ok (.getfield 207, 3) := by decide +kernel
theorem dX8_relieved_26 : decode cX8_relieved 26 = .ok (.ireturn, 1) := by decide +kernel
theorem dX8_lifted_0 : decode cX8_lifted 0 = .ok (.aload_n 0, 1) := by decide +kernel
theorem dX8_lifted_1 : decode cX8_lifted 1 = .ok (.getfield 10, 3) := by decide +kernel
theorem dX8_lifted_4 : decode cX8_lifted 4 = .ok (.iload_n 1, 1) := by decide +kernel
theorem dX8_lifted_5 : decode cX8_lifted 5 = .ok (.invokevirtual 72, 3) := by decide +kernel
theorem dX8_lifted_8 : decode cX8_lifted 8 = .ok (.astore_n 2, 1) := by decide +kernel
theorem dX8_lifted_9 : decode cX8_lifted 9 = .ok (.aload_n 2, 1) := by decide +kernel
theorem dX8_lifted_10 : decode cX8_lifted 10 = .ok (.ifnonnull 9, 3) := by decide +kernel
theorem dX8_lifted_13 : decode cX8_lifted 13 = .ok (.sipush (-1001), 3) := by decide +kernel
theorem dX8_lifted_16 : decode cX8_lifted 16 = .ok (.goto 10, 3) := by decide +kernel
theorem dX8_lifted_19 : decode cX8_lifted 19 = .ok (.aload_n 2, 1) := by decide +kernel
theorem dX8_lifted_20 : decode cX8_lifted 20 = .ok (.getfield 195, 3) := by decide +kernel
theorem dX8_lifted_23 : decode cX8_lifted 23 = .ok (.getfield 210, 3) := by decide +kernel
theorem dX8_lifted_26 : decode cX8_lifted 26 = .ok (.ireturn, 1) := by decide +kernel
theorem dX8_overflowed_0 : decode cX8_overflowed 0 = .ok (.aload_n 0, 1) := by decide +kernel
theorem dX8_overflowed_1 : decode cX8_overflowed 1 = .ok (.getfield 10, 3) := by decide +kernel
theorem dX8_overflowed_4 : decode cX8_overflowed 4 = .ok (.iload_n 1, 1) := by decide +kernel
theorem dX8_overflowed_5 : decode cX8_overflowed 5 = .ok (.invokevirtual 72, 3) := by decide +kernel
theorem dX8_overflowed_8 : decode cX8_overflowed 8 = .ok (.astore_n 2, 1) := by decide +kernel
theorem dX8_overflowed_9 : decode cX8_overflowed 9 = .ok (.aload_n 2, 1) := by decide +kernel
theorem dX8_overflowed_10 : decode cX8_overflowed 10 = .ok (.ifnonnull 9, 3) := by decide +kernel
theorem dX8_overflowed_13 : decode cX8_overflowed 13 = .ok (.sipush (-1001), 3) := by decide +kernel
theorem dX8_overflowed_16 : decode cX8_overflowed 16 = .ok (.goto 10, 3) := by decide +kernel
theorem dX8_overflowed_19 : decode cX8_overflowed 19 = .ok (.aload_n 2, 1) := by decide +kernel
theorem dX8_overflowed_20 : decode cX8_overflowed 20 = .ok (.getfield 195, 3) := by decide +kernel
theorem dX8_overflowed_23 : decode cX8_overflowed 23 = .ok (.getfield 213, 3) := by decide +kernel
theorem dX8_overflowed_26 : decode cX8_overflowed 26 = .ok (.ireturn, 1) := by decide +kernel
theorem dX8_starved_0 : decode cX8_starved 0 = .ok (.aload_n 0, 1) := by decide +kernel
theorem dX8_starved_1 : decode cX8_starved 1 = .ok (.getfield 10, 3) := by decide +kernel
theorem dX8_starved_4 : decode cX8_starved 4 = .ok (.iload_n 1, 1) := by decide +kernel
theorem dX8_starved_5 : decode cX8_starved 5 = .ok (.invokevirtual 72, 3) := by decide +kernel
theorem dX8_starved_8 : decode cX8_starved 8 = .ok (.astore_n 2, 1) := by decide +kernel
theorem dX8_starved_9 : decode cX8_starved 9 = .ok (.aload_n 2, 1) := by decide +kernel
theorem dX8_starved_10 : decode cX8_starved 10 = .ok (.ifnonnull 9, 3) := by decide +kernel
theorem dX8_starved_13 : decode cX8_starved 13 = .ok (.sipush (-1001), 3) := by decide +kernel
theorem dX8_starved_16 : decode cX8_starved 16 = .ok (.goto 10, 3) := by decide +kernel
theorem dX8_starved_19 : decode cX8_starved 19 = .ok (.aload_n 2, 1) := by decide +kernel
theorem dX8_starved_20 : decode cX8_starved 20 = .ok (.getfield 195, 3) := by decide +kernel
theorem dX8_starved_23 : decode cX8_starved 23 = .ok (.getfield 216, 3) := by decide +kernel
theorem dX8_starved_26 : decode cX8_starved 26 = .ok (.ireturn, 1) := by decide +kernel
theorem dX8_tank_0 : decode cX8_tank 0 = .ok (.aload_n 0, 1) := by decide +kernel
theorem dX8_tank_1 : decode cX8_tank 1 = .ok (.getfield 10, 3) := by decide +kernel
theorem dX8_tank_4 : decode cX8_tank 4 = .ok (.iload_n 1, 1) := by decide +kernel
theorem dX8_tank_5 : decode cX8_tank 5 = .ok (.invokevirtual 72, 3) := by decide +kernel
theorem dX8_tank_8 : decode cX8_tank 8 = .ok (.astore_n 2, 1) := by decide +kernel
theorem dX8_tank_9 : decode cX8_tank 9 = .ok (.aload_n 2, 1) := by decide +kernel
theorem dX8_tank_10 : decode cX8_tank 10 = .ok (.ifnonnull 9, 3) := by decide +kernel
theorem dX8_tank_13 : decode cX8_tank 13 = .ok (.sipush (-1001), 3) := by decide +kernel
theorem dX8_tank_16 : decode cX8_tank 16 = .ok (.goto 7, 3) := by decide +kernel
theorem dX8_tank_19 : decode cX8_tank 19 = .ok (.aload_n 2, 1) := by decide +kernel
theorem dX8_tank_20 : decode cX8_tank 20 = .ok (.getfield 119, 3) := by decide +kernel
theorem dX8_tank_23 : decode cX8_tank 23 = .ok (.ireturn, 1) := by decide +kernel
theorem dX8_interval_0 : decode cX8_interval 0 = .ok (.aload_n 0, 1) := by decide +kernel
theorem dX8_interval_1 : decode cX8_interval 1 = .ok (.getfield 10, 3) := by decide +kernel
theorem dX8_interval_4 : decode cX8_interval 4 = .ok (.iload_n 1, 1) := by decide +kernel
theorem dX8_interval_5 : decode cX8_interval 5 = .ok (.invokevirtual 72, 3) := by decide +kernel
theorem dX8_interval_8 : decode cX8_interval 8 = .ok (.astore_n 3, 1) := by decide +kernel
theorem dX8_interval_9 : decode cX8_interval 9 = .ok (.aload_n 3, 1) := by decide +kernel
theorem dX8_interval_10 : decode cX8_interval 10 = .ok (.ifnonnull 7, 3) := by decide +kernel
theorem dX8_interval_13 : decode cX8_interval 13 = .ok (.sipush (-1001), 3) := by decide +kernel
theorem dX8_interval_16 : decode cX8_interval 16 = .ok (.ireturn, 1) := by decide +kernel
theorem dX8_interval_17 : decode cX8_interval 17 = .ok (.iload_n 2, 1) := by decide +kernel
theorem dX8_interval_18 : decode cX8_interval 18 = .ok (.ifCond .ge 9, 3) := by decide +kernel
theorem dX8_interval_21 : decode cX8_interval 21 = .ok (.sipush (-1002), 3) := by decide +kernel
theorem dX8_interval_24 : decode cX8_interval 24 = .ok (.goto 11, 3) := by decide +kernel
theorem dX8_interval_27 : decode cX8_interval 27 = .ok (.aload_n 3, 1) := by decide +kernel
theorem dX8_interval_28 : decode cX8_interval 28 = .ok (.getfield 219, 3) := by decide +kernel
theorem dX8_interval_31 : decode cX8_interval 31 = .ok (.iload_n 2, 1) := by decide +kernel
theorem dX8_interval_32 : decode cX8_interval 32 = .ok (.invokevirtual 169, 3) := by decide +kernel
theorem dX8_interval_35 : decode cX8_interval 35 = .ok (.ireturn, 1) := by decide +kernel
theorem dX8_trace_0 : decode cX8_trace 0 = .ok (.aload_n 0, 1) := by decide +kernel
theorem dX8_trace_1 : decode cX8_trace 1 = .ok (.getfield 10, 3) := by decide +kernel
theorem dX8_trace_4 : decode cX8_trace 4 = .ok (.iload_n 1, 1) := by decide +kernel
theorem dX8_trace_5 : decode cX8_trace 5 = .ok (.invokevirtual 72, 3) := by decide +kernel
theorem dX8_trace_8 : decode cX8_trace 8 = .ok (.astore_n 3, 1) := by decide +kernel
theorem dX8_trace_9 : decode cX8_trace 9 = .ok (.aload_n 3, 1) := by decide +kernel
theorem dX8_trace_10 : decode cX8_trace 10 = .ok (.ifnonnull 7, 3) := by decide +kernel
theorem dX8_trace_13 : decode cX8_trace 13 = .ok (.sipush (-1001), 3) := by decide +kernel
theorem dX8_trace_16 : decode cX8_trace 16 = .ok (.ireturn, 1) := by decide +kernel
theorem dX8_trace_17 : decode cX8_trace 17 = .ok (.iload_n 2, 1) := by decide +kernel
theorem dX8_trace_18 : decode cX8_trace 18 = .ok (.ifCond .ge 9, 3) := by decide +kernel
theorem dX8_trace_21 : decode cX8_trace 21 = .ok (.sipush (-1002), 3) := by decide +kernel
theorem dX8_trace_24 : decode cX8_trace 24 = .ok (.goto 11, 3) := by decide +kernel
theorem dX8_trace_27 : decode cX8_trace 27 = .ok (.aload_n 3, 1) := by decide +kernel
theorem dX8_trace_28 : decode cX8_trace 28 = .ok (.getfield 222, 3) := by decide +kernel
theorem dX8_trace_31 : decode cX8_trace 31 = .ok (.iload_n 2, 1) := by decide +kernel
theorem dX8_trace_32 : decode cX8_trace 32 = .ok (.invokevirtual 169, 3) := by decide +kernel
theorem dX8_trace_35 : decode cX8_trace 35 = .ok (.ireturn, 1) := by decide +kernel
theorem dX8_efficiency_0 : decode cX8_efficiency 0 = .ok (.aload_n 0, 1) := by decide +kernel
theorem dX8_efficiency_1 : decode cX8_efficiency 1 = .ok (.getfield 10, 3) := by decide +kernel
theorem dX8_efficiency_4 : decode cX8_efficiency 4 = .ok (.iload_n 1, 1) := by decide +kernel
theorem dX8_efficiency_5 : decode cX8_efficiency 5 = .ok (.invokevirtual 72, 3) := by decide +kernel
theorem dX8_efficiency_8 : decode cX8_efficiency 8 = .ok (.astore_n 2, 1) := by decide +kernel
theorem dX8_efficiency_9 : decode cX8_efficiency 9 = .ok (.aload_n 2, 1) := by decide +kernel
theorem dX8_efficiency_10 : decode cX8_efficiency 10 = .ok (.ifnonnull 9, 3) := by decide +kernel
theorem dX8_efficiency_13 : decode cX8_efficiency 13 = .ok (.sipush (-1001), 3) := by decide +kernel
theorem dX8_efficiency_16 : decode cX8_efficiency 16 = .ok (.goto 7, 3) := by decide +kernel
theorem dX8_efficiency_19 : decode cX8_efficiency 19 = .ok (.aload_n 2, 1) := by decide +kernel
theorem dX8_efficiency_20 : decode cX8_efficiency 20 = .ok (.invokevirtual 225, 3) := by decide +kernel
theorem dX8_efficiency_23 : decode cX8_efficiency 23 = .ok (.ireturn, 1) := by decide +kernel
theorem dX8_bestPump_0 : decode cX8_bestPump 0 = .ok (.sipush (-1005), 3) := by decide +kernel
theorem dX8_bestPump_3 : decode cX8_bestPump 3 = .ok (.istore_n 1, 1) := by decide +kernel
theorem dX8_bestPump_4 : decode cX8_bestPump 4 = .ok (.iconst (-1), 1) := by decide +kernel
theorem dX8_bestPump_5 : decode cX8_bestPump 5 = .ok (.istore_n 2, 1) := by decide +kernel
theorem dX8_bestPump_6 : decode cX8_bestPump 6 = .ok (.iconst 0, 1) := by decide +kernel
theorem dX8_bestPump_7 : decode cX8_bestPump 7 = .ok (.istore_n 3, 1) := by decide +kernel
theorem dX8_bestPump_8 : decode cX8_bestPump 8 = .ok (.iload_n 3, 1) := by decide +kernel
theorem dX8_bestPump_9 : decode cX8_bestPump 9 = .ok (.aload_n 0, 1) := by decide +kernel
theorem dX8_bestPump_10 : decode cX8_bestPump 10 = .ok (.getfield 10, 3) := by decide +kernel
theorem dX8_bestPump_13 : decode cX8_bestPump 13 = .ok (.getfield 62, 3) := by decide +kernel
theorem dX8_bestPump_16 : decode cX8_bestPump 16 = .ok (.if_icmp .ge 27, 3) := by decide +kernel
theorem dX8_bestPump_19 : decode cX8_bestPump 19 = .ok (.aload_n 0, 1) := by decide +kernel
theorem dX8_bestPump_20 : decode cX8_bestPump 20 = .ok (.iload_n 3, 1) := by decide +kernel
theorem dX8_bestPump_21 : decode cX8_bestPump 21 = .ok (.invokevirtual 228, 3) := by decide +kernel
theorem dX8_bestPump_24 : decode cX8_bestPump 24 = .ok (.istore 4, 2) := by decide +kernel
theorem dX8_bestPump_26 : decode cX8_bestPump 26 = .ok (.iload 4, 2) := by decide +kernel
theorem dX8_bestPump_28 : decode cX8_bestPump 28 = .ok (.iload_n 2, 1) := by decide +kernel
theorem dX8_bestPump_29 : decode cX8_bestPump 29 = .ok (.if_icmp .le 8, 3) := by decide +kernel
theorem dX8_bestPump_32 : decode cX8_bestPump 32 = .ok (.iload 4, 2) := by decide +kernel
theorem dX8_bestPump_34 : decode cX8_bestPump 34 = .ok (.istore_n 2, 1) := by decide +kernel
theorem dX8_bestPump_35 : decode cX8_bestPump 35 = .ok (.iload_n 3, 1) := by decide +kernel
theorem dX8_bestPump_36 : decode cX8_bestPump 36 = .ok (.istore_n 1, 1) := by decide +kernel
theorem dX8_bestPump_37 : decode cX8_bestPump 37 = .ok (.iinc 3 1, 3) := by decide +kernel
theorem dX8_bestPump_40 : decode cX8_bestPump 40 = .ok (.goto (-32), 3) := by decide +kernel
theorem dX8_bestPump_43 : decode cX8_bestPump 43 = .ok (.iload_n 1, 1) := by decide +kernel
theorem dX8_bestPump_44 : decode cX8_bestPump 44 = .ok (.ireturn, 1) := by decide +kernel
theorem dX8_ticksToSlam_0 : decode cX8_ticksToSlam 0 = .ok (.aload_n 0, 1) := by decide +kernel
theorem dX8_ticksToSlam_1 : decode cX8_ticksToSlam 1 = .ok (.getfield 10, 3) := by decide +kernel
theorem dX8_ticksToSlam_4 : decode cX8_ticksToSlam 4 = .ok (.iload_n 1, 1) := by decide +kernel
theorem dX8_ticksToSlam_5 : decode cX8_ticksToSlam 5 = .ok (.invokevirtual 72, 3) := by decide +kernel
theorem dX8_ticksToSlam_8 : decode cX8_ticksToSlam 8 = .ok (.astore_n 2, 1) := by decide +kernel
theorem dX8_ticksToSlam_9 : decode cX8_ticksToSlam 9 = .ok (.aload_n 2, 1) := by decide +kernel
theorem dX8_ticksToSlam_10 : decode cX8_ticksToSlam 10 = .ok (.ifnonnull 7, 3) := by decide +kernel
theorem dX8_ticksToSlam_13 : decode cX8_ticksToSlam 13 = .ok (.sipush (-1001), 3) := by decide +kernel
theorem dX8_ticksToSlam_16 : decode cX8_ticksToSlam 16 = .ok (.ireturn, 1) := by decide +kernel
theorem dX8_ticksToSlam_17 : decode cX8_ticksToSlam 17 = .ok (.aload_n 0, 1) := by decide +kernel
theorem dX8_ticksToSlam_18 : decode cX8_ticksToSlam 18 = .ok (.getfield 50, 3) := by decide +kernel
theorem dX8_ticksToSlam_21 : decode cX8_ticksToSlam 21 = .ok (.aload_n 2, 1) := by decide +kernel
theorem dX8_ticksToSlam_22 : decode cX8_ticksToSlam 22 = .ok (.invokevirtual 231, 3) := by decide +kernel
theorem dX8_ticksToSlam_25 : decode cX8_ticksToSlam 25 = .ok (.iconst 1, 1) := by decide +kernel
theorem dX8_ticksToSlam_26 : decode cX8_ticksToSlam 26 = .ok (.istore_n 3, 1) := by decide +kernel
theorem dX8_ticksToSlam_27 : decode cX8_ticksToSlam 27 = .ok (.iload_n 3, 1) := by decide +kernel
theorem dX8_ticksToSlam_28 : decode cX8_ticksToSlam 28 = .ok (.sipush 2000, 3) := by decide +kernel
theorem dX8_ticksToSlam_31 : decode cX8_ticksToSlam 31 = .ok (.if_icmp .gt 25, 3) := by decide +kernel
theorem dX8_ticksToSlam_34 : decode cX8_ticksToSlam 34 = .ok (.aload_n 0, 1) := by decide +kernel
theorem dX8_ticksToSlam_35 : decode cX8_ticksToSlam 35 = .ok (.invokevirtual 234, 3) := by decide +kernel
theorem dX8_ticksToSlam_38 : decode cX8_ticksToSlam 38 = .ok (.aload_n 0, 1) := by decide +kernel
theorem dX8_ticksToSlam_39 : decode cX8_ticksToSlam 39 = .ok (.getfield 41, 3) := by decide +kernel
theorem dX8_ticksToSlam_42 : decode cX8_ticksToSlam 42 = .ok (.getfield 237, 3) := by decide +kernel
theorem dX8_ticksToSlam_45 : decode cX8_ticksToSlam 45 = .ok (.ifCond .eq 5, 3) := by decide +kernel
theorem dX8_ticksToSlam_48 : decode cX8_ticksToSlam 48 = .ok (.iload_n 3, 1) := by decide +kernel
theorem dX8_ticksToSlam_49 : decode cX8_ticksToSlam 49 = .ok (.ireturn, 1) := by decide +kernel
theorem dX8_ticksToSlam_50 : decode cX8_ticksToSlam 50 = .ok (.iinc 3 1, 3) := by decide +kernel
theorem dX8_ticksToSlam_53 : decode cX8_ticksToSlam 53 = .ok (.goto (-26), 3) := by decide +kernel
theorem dX8_ticksToSlam_56 : decode cX8_ticksToSlam 56 = .ok (.sipush (-1005), 3) := by decide +kernel
theorem dX8_ticksToSlam_59 : decode cX8_ticksToSlam 59 = .ok (.ireturn, 1) := by decide +kernel
theorem dX8_deliveredIn_0 : decode cX8_deliveredIn 0 = .ok (.aload_n 0, 1) := by decide +kernel
theorem dX8_deliveredIn_1 : decode cX8_deliveredIn 1 = .ok (.getfield 10, 3) := by decide +kernel
theorem dX8_deliveredIn_4 : decode cX8_deliveredIn 4 = .ok (.iload_n 1, 1) := by decide +kernel
theorem dX8_deliveredIn_5 : decode cX8_deliveredIn 5 = .ok (.invokevirtual 72, 3) := by decide +kernel
theorem dX8_deliveredIn_8 : decode cX8_deliveredIn 8 = .ok (.astore_n 3, 1) := by decide +kernel
theorem dX8_deliveredIn_9 : decode cX8_deliveredIn 9 = .ok (.aload_n 3, 1) := by decide +kernel
theorem dX8_deliveredIn_10 : decode cX8_deliveredIn 10 = .ok (.ifnonnull 7, 3) := by decide +kernel
theorem dX8_deliveredIn_13 : decode cX8_deliveredIn 13 = .ok (.sipush (-1001), 3) := by decide +kernel
theorem dX8_deliveredIn_16 : decode cX8_deliveredIn 16 = .ok (.ireturn, 1) := by decide +kernel
theorem dX8_deliveredIn_17 : decode cX8_deliveredIn 17 = .ok (.iload_n 2, 1) := by decide +kernel
theorem dX8_deliveredIn_18 : decode cX8_deliveredIn 18 = .ok (.iconst 1, 1) := by decide +kernel
theorem dX8_deliveredIn_19 : decode cX8_deliveredIn 19 = .ok (.sipush 500, 3) := by decide +kernel
theorem dX8_deliveredIn_22 : decode cX8_deliveredIn 22 = .ok (.invokestatic 58, 3) := by decide +kernel
theorem dX8_deliveredIn_25 : decode cX8_deliveredIn 25 = .ok (.ifCond .eq 7, 3) := by decide +kernel
theorem dX8_deliveredIn_28 : decode cX8_deliveredIn 28 = .ok (.sipush (-1002), 3) := by decide +kernel
theorem dX8_deliveredIn_31 : decode cX8_deliveredIn 31 = .ok (.ireturn, 1) := by decide +kernel
theorem dX8_deliveredIn_32 : decode cX8_deliveredIn 32 = .ok (.aload_n 0, 1) := by decide +kernel
theorem dX8_deliveredIn_33 : decode cX8_deliveredIn 33 = .ok (.getfield 50, 3) := by decide +kernel
theorem dX8_deliveredIn_36 : decode cX8_deliveredIn 36 = .ok (.aload_n 3, 1) := by decide +kernel
theorem dX8_deliveredIn_37 : decode cX8_deliveredIn 37 = .ok (.invokevirtual 231, 3) := by decide +kernel
theorem dX8_deliveredIn_40 : decode cX8_deliveredIn 40 = .ok (.aload_n 0, 1) := by decide +kernel
theorem dX8_deliveredIn_41 : decode cX8_deliveredIn 41 = .ok (.iload_n 2, 1) := by decide +kernel
theorem dX8_deliveredIn_42 : decode cX8_deliveredIn 42 = .ok (.invokevirtual 240, 3) := by decide +kernel
theorem dX8_deliveredIn_45 : decode cX8_deliveredIn 45 = .ok (.ireturn, 1) := by decide +kernel
theorem dX8_drawnIn_0 : decode cX8_drawnIn 0 = .ok (.aload_n 0, 1) := by decide +kernel
theorem dX8_drawnIn_1 : decode cX8_drawnIn 1 = .ok (.getfield 10, 3) := by decide +kernel
theorem dX8_drawnIn_4 : decode cX8_drawnIn 4 = .ok (.iload_n 1, 1) := by decide +kernel
theorem dX8_drawnIn_5 : decode cX8_drawnIn 5 = .ok (.invokevirtual 72, 3) := by decide +kernel
theorem dX8_drawnIn_8 : decode cX8_drawnIn 8 = .ok (.astore_n 3, 1) := by decide +kernel
theorem dX8_drawnIn_9 : decode cX8_drawnIn 9 = .ok (.aload_n 3, 1) := by decide +kernel
theorem dX8_drawnIn_10 : decode cX8_drawnIn 10 = .ok (.ifnonnull 7, 3) := by decide +kernel
theorem dX8_drawnIn_13 : decode cX8_drawnIn 13 = .ok (.sipush (-1001), 3) := by decide +kernel
theorem dX8_drawnIn_16 : decode cX8_drawnIn 16 = .ok (.ireturn, 1) := by decide +kernel
theorem dX8_drawnIn_17 : decode cX8_drawnIn 17 = .ok (.iload_n 2, 1) := by decide +kernel
theorem dX8_drawnIn_18 : decode cX8_drawnIn 18 = .ok (.iconst 1, 1) := by decide +kernel
theorem dX8_drawnIn_19 : decode cX8_drawnIn 19 = .ok (.sipush 500, 3) := by decide +kernel
theorem dX8_drawnIn_22 : decode cX8_drawnIn 22 = .ok (.invokestatic 58, 3) := by decide +kernel
theorem dX8_drawnIn_25 : decode cX8_drawnIn 25 = .ok (.ifCond .eq 7, 3) := by decide +kernel
theorem dX8_drawnIn_28 : decode cX8_drawnIn 28 = .ok (.sipush (-1002), 3) := by decide +kernel
theorem dX8_drawnIn_31 : decode cX8_drawnIn 31 = .ok (.ireturn, 1) := by decide +kernel
theorem dX8_drawnIn_32 : decode cX8_drawnIn 32 = .ok (.aload_n 0, 1) := by decide +kernel
theorem dX8_drawnIn_33 : decode cX8_drawnIn 33 = .ok (.getfield 50, 3) := by decide +kernel
theorem dX8_drawnIn_36 : decode cX8_drawnIn 36 = .ok (.aload_n 3, 1) := by decide +kernel
theorem dX8_drawnIn_37 : decode cX8_drawnIn 37 = .ok (.invokevirtual 231, 3) := by decide +kernel
theorem dX8_drawnIn_40 : decode cX8_drawnIn 40 = .ok (.iconst 0, 1) := by decide +kernel
theorem dX8_drawnIn_41 : decode cX8_drawnIn 41 = .ok (.istore 4, 2) := by decide +kernel
theorem dX8_drawnIn_43 : decode cX8_drawnIn 43 = .ok (.iconst 0, 1) := by decide +kernel
theorem dX8_drawnIn_44 : decode cX8_drawnIn 44 = .ok (.istore 5, 2) := by decide +kernel
theorem dX8_drawnIn_46 : decode cX8_drawnIn 46 = .ok (.iload 5, 2) := by decide +kernel
theorem dX8_drawnIn_48 : decode cX8_drawnIn 48 = .ok (.iload_n 2, 1) := by decide +kernel
theorem dX8_drawnIn_49 : decode cX8_drawnIn 49 = .ok (.if_icmp .ge 25, 3) := by decide +kernel
theorem dX8_drawnIn_52 : decode cX8_drawnIn 52 = .ok (.aload_n 0, 1) := by decide +kernel
theorem dX8_drawnIn_53 : decode cX8_drawnIn 53 = .ok (.invokevirtual 234, 3) := by decide +kernel
theorem dX8_drawnIn_56 : decode cX8_drawnIn 56 = .ok (.iload 4, 2) := by decide +kernel
theorem dX8_drawnIn_58 : decode cX8_drawnIn 58 = .ok (.aload_n 0, 1) := by decide +kernel
theorem dX8_drawnIn_59 : decode cX8_drawnIn 59 = .ok (.getfield 41, 3) := by decide +kernel
theorem dX8_drawnIn_62 : decode cX8_drawnIn 62 = .ok (.getfield 243, 3) := by decide +kernel
theorem dX8_drawnIn_65 : decode cX8_drawnIn 65 = .ok (.iadd, 1) := by decide +kernel
theorem dX8_drawnIn_66 : decode cX8_drawnIn 66 = .ok (.istore 4, 2) := by decide +kernel
theorem dX8_drawnIn_68 : decode cX8_drawnIn 68 = .ok (.iinc 5 1, 3) := by decide +kernel
theorem dX8_drawnIn_71 : decode cX8_drawnIn 71 = .ok (.goto (-25), 3) := by decide +kernel
theorem dX8_drawnIn_74 : decode cX8_drawnIn 74 = .ok (.iload 4, 2) := by decide +kernel
theorem dX8_drawnIn_76 : decode cX8_drawnIn 76 = .ok (.ireturn, 1) := by decide +kernel
theorem dX8_period_0 : decode cX8_period 0 = .ok (.aload_n 0, 1) := by decide +kernel
theorem dX8_period_1 : decode cX8_period 1 = .ok (.getfield 10, 3) := by decide +kernel
theorem dX8_period_4 : decode cX8_period 4 = .ok (.iload_n 1, 1) := by decide +kernel
theorem dX8_period_5 : decode cX8_period 5 = .ok (.invokevirtual 72, 3) := by decide +kernel
theorem dX8_period_8 : decode cX8_period 8 = .ok (.astore_n 2, 1) := by decide +kernel
theorem dX8_period_9 : decode cX8_period 9 = .ok (.aload_n 2, 1) := by decide +kernel
theorem dX8_period_10 : decode cX8_period 10 = .ok (.ifnonnull 7, 3) := by decide +kernel
theorem dX8_period_13 : decode cX8_period 13 = .ok (.sipush (-1001), 3) := by decide +kernel
theorem dX8_period_16 : decode cX8_period 16 = .ok (.ireturn, 1) := by decide +kernel
theorem dX8_period_17 : decode cX8_period 17 = .ok (.aload_n 0, 1) := by decide +kernel
theorem dX8_period_18 : decode cX8_period 18 = .ok (.getfield 50, 3) := by decide +kernel
theorem dX8_period_21 : decode cX8_period 21 = .ok (.aload_n 2, 1) := by decide +kernel
theorem dX8_period_22 : decode cX8_period 22 = .ok (.invokevirtual 231, 3) := by decide +kernel
theorem dX8_period_25 : decode cX8_period 25 = .ok (.iconst 0, 1) := by decide +kernel
theorem dX8_period_26 : decode cX8_period 26 = .ok (.istore_n 3, 1) := by decide +kernel
theorem dX8_period_27 : decode cX8_period 27 = .ok (.iload_n 3, 1) := by decide +kernel
theorem dX8_period_28 : decode cX8_period 28 = .ok (.aload_n 0, 1) := by decide +kernel
theorem dX8_period_29 : decode cX8_period 29 = .ok (.getfield 54, 3) := by decide +kernel
theorem dX8_period_32 : decode cX8_period 32 = .ok (.arraylength, 1) := by decide +kernel
theorem dX8_period_33 : decode cX8_period 33 = .ok (.if_icmp .ge 42, 3) := by decide +kernel
theorem dX8_period_36 : decode cX8_period 36 = .ok (.aload_n 0, 1) := by decide +kernel
theorem dX8_period_37 : decode cX8_period 37 = .ok (.invokevirtual 234, 3) := by decide +kernel
theorem dX8_period_40 : decode cX8_period 40 = .ok (.aload_n 0, 1) := by decide +kernel
theorem dX8_period_41 : decode cX8_period 41 = .ok (.getfield 54, 3) := by decide +kernel
theorem dX8_period_44 : decode cX8_period 44 = .ok (.iload_n 3, 1) := by decide +kernel
theorem dX8_period_45 : decode cX8_period 45 = .ok (.aload_n 0, 1) := by decide +kernel
theorem dX8_period_46 : decode cX8_period 46 = .ok (.getfield 41, 3) := by decide +kernel
theorem dX8_period_49 : decode cX8_period 49 = .ok (.getfield 237, 3) := by decide +kernel
theorem dX8_period_52 : decode cX8_period 52 = .ok (.ifCond .eq 13, 3) := by decide +kernel
theorem dX8_period_55 : decode cX8_period 55 = .ok (.aload_n 0, 1) := by decide +kernel
theorem dX8_period_56 : decode cX8_period 56 = .ok (.getfield 50, 3) := by decide +kernel
theorem dX8_period_59 : decode cX8_period 59 = .ok (.invokevirtual 246, 3) := by decide +kernel
theorem dX8_period_62 : decode cX8_period 62 = .ok (.goto 6, 3) := by decide +kernel
theorem dX8_period_65 : decode cX8_period 65 = .ok (.ldc2_w 250, 3) := by decide +kernel
theorem dX8_period_68 : decode cX8_period 68 = .ok (.lastore, 1) := by decide +kernel
theorem dX8_period_69 : decode cX8_period 69 = .ok (.iinc 3 1, 3) := by decide +kernel
theorem dX8_period_72 : decode cX8_period 72 = .ok (.goto (-45), 3) := by decide +kernel
theorem dX8_period_75 : decode cX8_period 75 = .ok (.aload_n 0, 1) := by decide +kernel
theorem dX8_period_76 : decode cX8_period 76 = .ok (.invokevirtual 252, 3) := by decide +kernel
theorem dX8_period_79 : decode cX8_period 79 = .ok (.ireturn, 1) := by decide +kernel
theorem dX8_bestLength_0 : decode cX8_bestLength 0 = .ok (.aload_n 0, 1) := by decide +kernel
theorem dX8_bestLength_1 : decode cX8_bestLength 1 = .ok (.getfield 10, 3) := by decide +kernel
theorem dX8_bestLength_4 : decode cX8_bestLength 4 = .ok (.iload_n 1, 1) := by decide +kernel
theorem dX8_bestLength_5 : decode cX8_bestLength 5 = .ok (.invokevirtual 72, 3) := by decide +kernel
theorem dX8_bestLength_8 : decode cX8_bestLength 8 = .ok (.astore_n 3, 1) := by decide +kernel
theorem dX8_bestLength_9 : decode cX8_bestLength 9 = .ok (.aload_n 3, 1) := by decide +kernel
theorem dX8_bestLength_10 : decode cX8_bestLength 10 = .ok (.ifnonnull 7, 3) := by decide +kernel
theorem dX8_bestLength_13 : decode cX8_bestLength 13 = .ok (.sipush (-1001), 3) := by decide +kernel
theorem dX8_bestLength_16 : decode cX8_bestLength 16 = .ok (.ireturn, 1) := by decide +kernel
theorem dX8_bestLength_17 : decode cX8_bestLength 17 = .ok (.iload_n 2, 1) := by decide +kernel
theorem dX8_bestLength_18 : decode cX8_bestLength 18 = .ok (.iconst 1, 1) := by decide +kernel
theorem dX8_bestLength_19 : decode cX8_bestLength 19 = .ok (.sipush 300, 3) := by decide +kernel
theorem dX8_bestLength_22 : decode cX8_bestLength 22 = .ok (.invokestatic 58, 3) := by decide +kernel
theorem dX8_bestLength_25 : decode cX8_bestLength 25 = .ok (.ifCond .eq 7, 3) := by decide +kernel
theorem dX8_bestLength_28 : decode cX8_bestLength 28 = .ok (.sipush (-1002), 3) := by decide +kernel
theorem dX8_bestLength_31 : decode cX8_bestLength 31 = .ok (.ireturn, 1) := by decide +kernel
theorem dX8_bestLength_32 : decode cX8_bestLength 32 = .ok (.iconst 0, 1) := by decide +kernel
theorem dX8_bestLength_33 : decode cX8_bestLength 33 = .ok (.istore 4, 2) := by decide +kernel
theorem dX8_bestLength_35 : decode cX8_bestLength 35 = .ok (.iconst (-1), 1) := by decide +kernel
theorem dX8_bestLength_36 : decode cX8_bestLength 36 = .ok (.istore 5, 2) := by decide +kernel
theorem dX8_bestLength_38 : decode cX8_bestLength 38 = .ok (.bipush 10, 2) := by decide +kernel
theorem dX8_bestLength_40 : decode cX8_bestLength 40 = .ok (.istore 6, 2) := by decide +kernel
theorem dX8_bestLength_42 : decode cX8_bestLength 42 = .ok (.iload 6, 2) := by decide +kernel
theorem dX8_bestLength_44 : decode cX8_bestLength 44 = .ok (.sipush 400, 3) := by decide +kernel
theorem dX8_bestLength_47 : decode cX8_bestLength 47 = .ok (.if_icmp .gt 38, 3) := by decide +kernel
theorem dX8_bestLength_50 : decode cX8_bestLength 50 = .ok (.aload_n 0, 1) := by decide +kernel
theorem dX8_bestLength_51 : decode cX8_bestLength 51 = .ok (.aload_n 3, 1) := by decide +kernel
theorem dX8_bestLength_52 : decode cX8_bestLength 52 = .ok (.iload 6, 2) := by decide +kernel
theorem dX8_bestLength_54 : decode cX8_bestLength 54 = .ok (.aload_n 3, 1) := by decide +kernel
theorem dX8_bestLength_55 : decode cX8_bestLength 55 = .ok (.getfield 80, 3) := by decide +kernel
theorem dX8_bestLength_58 : decode cX8_bestLength 58 = .ok (.iload_n 2, 1) := by decide +kernel
theorem dX8_bestLength_59 : decode cX8_bestLength 59 = .ok (.invokevirtual 255, 3) := by decide +kernel
theorem dX8_bestLength_62 : decode cX8_bestLength 62 = .ok (.istore 7, 2) := by decide +kernel
theorem dX8_bestLength_64 : decode cX8_bestLength 64 = .ok (.iload 7, 2) := by decide +kernel
theorem dX8_bestLength_66 : decode cX8_bestLength 66 = .ok (.iload 5, 2) := by decide +kernel
theorem dX8_bestLength_68 : decode cX8_bestLength 68 = .ok (.if_icmp .le 11, 3) := by decide +kernel
theorem dX8_bestLength_71 : decode cX8_bestLength 71 = .ok (.iload 7, 2) := by decide +kernel
theorem dX8_bestLength_73 : decode cX8_bestLength 73 = .ok (.istore 5, 2) := by decide +kernel
theorem dX8_bestLength_75 : decode cX8_bestLength 75 = .ok (.iload 6, 2) := by decide +kernel
theorem dX8_bestLength_77 : decode cX8_bestLength 77 = .ok (.istore 4, 2) := by decide +kernel
theorem dX8_bestLength_79 : decode cX8_bestLength 79 = .ok (.iinc 6 10, 3) := by decide +kernel
theorem dX8_bestLength_82 : decode cX8_bestLength 82 = .ok (.goto (-40), 3) := by decide +kernel
theorem dX8_bestLength_85 : decode cX8_bestLength 85 = .ok (.iload 4, 2) := by decide +kernel
theorem dX8_bestLength_87 : decode cX8_bestLength 87 = .ok (.ireturn, 1) := by decide +kernel
theorem dX8_bestSetting_0 : decode cX8_bestSetting 0 = .ok (.aload_n 0, 1) := by decide +kernel
theorem dX8_bestSetting_1 : decode cX8_bestSetting 1 = .ok (.getfield 10, 3) := by decide +kernel
theorem dX8_bestSetting_4 : decode cX8_bestSetting 4 = .ok (.iload_n 1, 1) := by decide +kernel
theorem dX8_bestSetting_5 : decode cX8_bestSetting 5 = .ok (.invokevirtual 72, 3) := by decide +kernel
theorem dX8_bestSetting_8 : decode cX8_bestSetting 8 = .ok (.astore_n 3, 1) := by decide +kernel
theorem dX8_bestSetting_9 : decode cX8_bestSetting 9 = .ok (.aload_n 3, 1) := by decide +kernel
theorem dX8_bestSetting_10 : decode cX8_bestSetting 10 = .ok (.ifnonnull 7, 3) := by decide +kernel
theorem dX8_bestSetting_13 : decode cX8_bestSetting 13 = .ok (.sipush (-1001), 3) := by decide +kernel
theorem dX8_bestSetting_16 : decode cX8_bestSetting 16 = .ok (.ireturn, 1) := by decide +kernel
theorem dX8_bestSetting_17 : decode cX8_bestSetting 17 = .ok (.iload_n 2, 1) := by decide +kernel
theorem dX8_bestSetting_18 : decode cX8_bestSetting 18 = .ok (.iconst 1, 1) := by decide +kernel
theorem dX8_bestSetting_19 : decode cX8_bestSetting 19 = .ok (.sipush 300, 3) := by decide +kernel
theorem dX8_bestSetting_22 : decode cX8_bestSetting 22 = .ok (.invokestatic 58, 3) := by decide +kernel
theorem dX8_bestSetting_25 : decode cX8_bestSetting 25 = .ok (.ifCond .eq 7, 3) := by decide +kernel
theorem dX8_bestSetting_28 : decode cX8_bestSetting 28 = .ok (.sipush (-1002), 3) := by decide +kernel
theorem dX8_bestSetting_31 : decode cX8_bestSetting 31 = .ok (.ireturn, 1) := by decide +kernel
theorem dX8_bestSetting_32 : decode cX8_bestSetting 32 = .ok (.iconst 0, 1) := by decide +kernel
theorem dX8_bestSetting_33 : decode cX8_bestSetting 33 = .ok (.istore 4, 2) := by decide +kernel
theorem dX8_bestSetting_35 : decode cX8_bestSetting 35 = .ok (.iconst (-1), 1) := by decide +kernel
theorem dX8_bestSetting_36 : decode cX8_bestSetting 36 = .ok (.istore 5, 2) := by decide +kernel
theorem dX8_bestSetting_38 : decode cX8_bestSetting 38 = .ok (.bipush 10, 2) := by decide +kernel
theorem dX8_bestSetting_40 : decode cX8_bestSetting 40 = .ok (.istore 6, 2) := by decide +kernel
theorem dX8_bestSetting_42 : decode cX8_bestSetting 42 = .ok (.iload 6, 2) := by decide +kernel
theorem dX8_bestSetting_44 : decode cX8_bestSetting 44 = .ok (.sipush 500, 3) := by decide +kernel
theorem dX8_bestSetting_47 : decode cX8_bestSetting 47 = .ok (.if_icmp .gt 38, 3) := by decide +kernel
theorem dX8_bestSetting_50 : decode cX8_bestSetting 50 = .ok (.aload_n 0, 1) := by decide +kernel
theorem dX8_bestSetting_51 : decode cX8_bestSetting 51 = .ok (.aload_n 3, 1) := by decide +kernel
theorem dX8_bestSetting_52 : decode cX8_bestSetting 52 = .ok (.aload_n 3, 1) := by decide +kernel
theorem dX8_bestSetting_53 : decode cX8_bestSetting 53 = .ok (.getfield 259, 3) := by decide +kernel
theorem dX8_bestSetting_56 : decode cX8_bestSetting 56 = .ok (.iload 6, 2) := by decide +kernel
theorem dX8_bestSetting_58 : decode cX8_bestSetting 58 = .ok (.iload_n 2, 1) := by decide +kernel
theorem dX8_bestSetting_59 : decode cX8_bestSetting 59 = .ok (.invokevirtual 255, 3) := by decide +kernel
theorem dX8_bestSetting_62 : decode cX8_bestSetting 62 = .ok (.istore 7, 2) := by decide +kernel
theorem dX8_bestSetting_64 : decode cX8_bestSetting 64 = .ok (.iload 7, 2) := by decide +kernel
theorem dX8_bestSetting_66 : decode cX8_bestSetting 66 = .ok (.iload 5, 2) := by decide +kernel
theorem dX8_bestSetting_68 : decode cX8_bestSetting 68 = .ok (.if_icmp .le 11, 3) := by decide +kernel
theorem dX8_bestSetting_71 : decode cX8_bestSetting 71 = .ok (.iload 7, 2) := by decide +kernel
theorem dX8_bestSetting_73 : decode cX8_bestSetting 73 = .ok (.istore 5, 2) := by decide +kernel
theorem dX8_bestSetting_75 : decode cX8_bestSetting 75 = .ok (.iload 6, 2) := by decide +kernel
theorem dX8_bestSetting_77 : decode cX8_bestSetting 77 = .ok (.istore 4, 2) := by decide +kernel
theorem dX8_bestSetting_79 : decode cX8_bestSetting 79 = .ok (.iinc 6 10, 3) := by decide +kernel
theorem dX8_bestSetting_82 : decode cX8_bestSetting 82 = .ok (.goto (-40), 3) := by decide +kernel
theorem dX8_bestSetting_85 : decode cX8_bestSetting 85 = .ok (.iload 4, 2) := by decide +kernel
theorem dX8_bestSetting_87 : decode cX8_bestSetting 87 = .ok (.ireturn, 1) := by decide +kernel
theorem dX8_outside_0 : decode cX8_outside 0 = .ok (.iload_n 0, 1) := by decide +kernel
theorem dX8_outside_1 : decode cX8_outside 1 = .ok (.iload_n 1, 1) := by decide +kernel
theorem dX8_outside_2 : decode cX8_outside 2 = .ok (.if_icmp .lt 8, 3) := by decide +kernel
theorem dX8_outside_5 : decode cX8_outside 5 = .ok (.iload_n 0, 1) := by decide +kernel
theorem dX8_outside_6 : decode cX8_outside 6 = .ok (.iload_n 2, 1) := by decide +kernel
theorem dX8_outside_7 : decode cX8_outside 7 = .ok (.if_icmp .le 7, 3) := by decide +kernel
theorem dX8_outside_10 : decode cX8_outside 10 = .ok (.iconst 1, 1) := by decide +kernel
theorem dX8_outside_11 : decode cX8_outside 11 = .ok (.goto 4, 3) := by decide +kernel
theorem dX8_outside_14 : decode cX8_outside 14 = .ok (.iconst 0, 1) := by decide +kernel
theorem dX8_outside_15 : decode cX8_outside 15 = .ok (.ireturn, 1) := by decide +kernel
theorem dX8_keepState_0 : decode cX8_keepState 0 = .ok (.aload_n 0, 1) := by decide +kernel
theorem dX8_keepState_1 : decode cX8_keepState 1 = .ok (.getfield 145, 3) := by decide +kernel
theorem dX8_keepState_4 : decode cX8_keepState 4 = .ok (.ifCond .eq 4, 3) := by decide +kernel
theorem dX8_keepState_7 : decode cX8_keepState 7 = .ok (.return_, 1) := by decide +kernel
theorem dX8_keepState_8 : decode cX8_keepState 8 = .ok (.aload_n 0, 1) := by decide +kernel
theorem dX8_keepState_9 : decode cX8_keepState 9 = .ok (.getfield 128, 3) := by decide +kernel
theorem dX8_keepState_12 : decode cX8_keepState 12 = .ok (.iconst 0, 1) := by decide +kernel
theorem dX8_keepState_13 : decode cX8_keepState 13 = .ok (.aload_n 0, 1) := by decide +kernel
theorem dX8_keepState_14 : decode cX8_keepState 14 = .ok (.getfield 16, 3) := by decide +kernel
theorem dX8_keepState_17 : decode cX8_keepState 17 = .ok (.arraylength, 1) := by decide +kernel
theorem dX8_keepState_18 : decode cX8_keepState 18 = .ok (.iconst 1, 1) := by decide +kernel
theorem dX8_keepState_19 : decode cX8_keepState 19 = .ok (.isub, 1) := by decide +kernel
theorem dX8_keepState_20 : decode cX8_keepState 20 = .ok (.invokestatic 58, 3) := by decide +kernel
theorem dX8_keepState_23 : decode cX8_keepState 23 = .ok (.ifCond .eq 8, 3) := by decide +kernel
theorem dX8_keepState_26 : decode cX8_keepState 26 = .ok (.aload_n 0, 1) := by decide +kernel
theorem dX8_keepState_27 : decode cX8_keepState 27 = .ok (.iconst 0, 1) := by decide +kernel
theorem dX8_keepState_28 : decode cX8_keepState 28 = .ok (.putfield 128, 3) := by decide +kernel
theorem dX8_keepState_31 : decode cX8_keepState 31 = .ok (.aload_n 0, 1) := by decide +kernel
theorem dX8_keepState_32 : decode cX8_keepState 32 = .ok (.getfield 16, 3) := by decide +kernel
theorem dX8_keepState_35 : decode cX8_keepState 35 = .ok (.aload_n 0, 1) := by decide +kernel
theorem dX8_keepState_36 : decode cX8_keepState 36 = .ok (.getfield 128, 3) := by decide +kernel
theorem dX8_keepState_39 : decode cX8_keepState 39 = .ok (.aaload, 1) := by decide +kernel
theorem dX8_keepState_40 : decode cX8_keepState 40 = .ok (.astore_n 1, 1) := by decide +kernel
theorem dX8_keepState_41 : decode cX8_keepState 41 = .ok (.aload_n 1, 1) := by decide +kernel
theorem dX8_keepState_42 : decode cX8_keepState 42 = .ok (.ifnull 11, 3) := by decide +kernel
theorem dX8_keepState_45 : decode cX8_keepState 45 = .ok (.aload_n 1, 1) := by decide +kernel
theorem dX8_keepState_46 : decode cX8_keepState 46 = .ok (.aload_n 0, 1) := by decide +kernel
theorem dX8_keepState_47 : decode cX8_keepState 47 = .ok (.getfield 10, 3) := by decide +kernel
theorem dX8_keepState_50 : decode cX8_keepState 50 = .ok (.invokevirtual 131, 3) := by decide +kernel
theorem dX8_keepState_53 : decode cX8_keepState 53 = .ok (.aload_n 0, 1) := by decide +kernel
theorem dX8_keepState_54 : decode cX8_keepState 54 = .ok (.dup, 1) := by decide +kernel
theorem dX8_keepState_55 : decode cX8_keepState 55 = .ok (.getfield 128, 3) := by decide +kernel
theorem dX8_keepState_58 : decode cX8_keepState 58 = .ok (.iconst 1, 1) := by decide +kernel
theorem dX8_keepState_59 : decode cX8_keepState 59 = .ok (.iadd, 1) := by decide +kernel
theorem dX8_keepState_60 : decode cX8_keepState 60 = .ok (.putfield 128, 3) := by decide +kernel
theorem dX8_keepState_63 : decode cX8_keepState 63 = .ok (.aload_n 0, 1) := by decide +kernel
theorem dX8_keepState_64 : decode cX8_keepState 64 = .ok (.getfield 125, 3) := by decide +kernel
theorem dX8_keepState_67 : decode cX8_keepState 67 = .ok (.aload_n 0, 1) := by decide +kernel
theorem dX8_keepState_68 : decode cX8_keepState 68 = .ok (.getfield 16, 3) := by decide +kernel
theorem dX8_keepState_71 : decode cX8_keepState 71 = .ok (.arraylength, 1) := by decide +kernel
theorem dX8_keepState_72 : decode cX8_keepState 72 = .ok (.if_icmp .ge 13, 3) := by decide +kernel
theorem dX8_keepState_75 : decode cX8_keepState 75 = .ok (.aload_n 0, 1) := by decide +kernel
theorem dX8_keepState_76 : decode cX8_keepState 76 = .ok (.dup, 1) := by decide +kernel
theorem dX8_keepState_77 : decode cX8_keepState 77 = .ok (.getfield 125, 3) := by decide +kernel
theorem dX8_keepState_80 : decode cX8_keepState 80 = .ok (.iconst 1, 1) := by decide +kernel
theorem dX8_keepState_81 : decode cX8_keepState 81 = .ok (.iadd, 1) := by decide +kernel
theorem dX8_keepState_82 : decode cX8_keepState 82 = .ok (.putfield 125, 3) := by decide +kernel
theorem dX8_keepState_85 : decode cX8_keepState 85 = .ok (.return_, 1) := by decide +kernel
theorem dX8_tickStation_0 : decode cX8_tickStation 0 = .ok (.aload_n 0, 1) := by decide +kernel
theorem dX8_tickStation_1 : decode cX8_tickStation 1 = .ok (.getfield 10, 3) := by decide +kernel
theorem dX8_tickStation_4 : decode cX8_tickStation 4 = .ok (.aload_n 0, 1) := by decide +kernel
theorem dX8_tickStation_5 : decode cX8_tickStation 5 = .ok (.getfield 10, 3) := by decide +kernel
theorem dX8_tickStation_8 : decode cX8_tickStation 8 = .ok (.getfield 103, 3) := by decide +kernel
theorem dX8_tickStation_11 : decode cX8_tickStation 11 = .ok (.invokevirtual 95, 3) := by decide +kernel
theorem dX8_tickStation_14 : decode cX8_tickStation 14 = .ok (.iconst 0, 1) := by decide +kernel
theorem dX8_tickStation_15 : decode cX8_tickStation 15 = .ok (.istore_n 1, 1) := by decide +kernel
theorem dX8_tickStation_16 : decode cX8_tickStation 16 = .ok (.iconst 0, 1) := by decide +kernel
theorem dX8_tickStation_17 : decode cX8_tickStation 17 = .ok (.istore_n 2, 1) := by decide +kernel
theorem dX8_tickStation_18 : decode cX8_tickStation 18 = .ok (.iload_n 2, 1) := by decide +kernel
theorem dX8_tickStation_19 : decode cX8_tickStation 19 = .ok (.aload_n 0, 1) := by decide +kernel
theorem dX8_tickStation_20 : decode cX8_tickStation 20 = .ok (.getfield 10, 3) := by decide +kernel
theorem dX8_tickStation_23 : decode cX8_tickStation 23 = .ok (.getfield 62, 3) := by decide +kernel
theorem dX8_tickStation_26 : decode cX8_tickStation 26 = .ok (.if_icmp .ge 85, 3) := by decide +kernel
theorem dX8_tickStation_29 : decode cX8_tickStation 29 = .ok (.aload_n 0, 1) := by decide +kernel
theorem dX8_tickStation_30 : decode cX8_tickStation 30 = .ok (.getfield 10, 3) := by decide +kernel
theorem dX8_tickStation_33 : decode cX8_tickStation 33 = .ok (.iload_n 2, 1) := by decide +kernel
theorem dX8_tickStation_34 : decode cX8_tickStation 34 = .ok (.invokevirtual 72, 3) := by decide +kernel
theorem dX8_tickStation_37 : decode cX8_tickStation 37 = .ok (.astore_n 3, 1) := by decide +kernel
theorem dX8_tickStation_38 : decode cX8_tickStation 38 = .ok (.aload_n 3, 1) := by decide +kernel
theorem dX8_tickStation_39 : decode cX8_tickStation 39 = .ok (.ifnull 66, 3) := by decide +kernel
theorem dX8_tickStation_42 : decode cX8_tickStation 42 = .ok (.aload_n 3, 1) := by decide +kernel
theorem dX8_tickStation_43 : decode cX8_tickStation 43 = .ok (.getfield 76, 3) := by decide +kernel
theorem dX8_tickStation_46 : decode cX8_tickStation 46 = .ok (.ifCond .eq 59, 3) := by decide +kernel
theorem dX8_tickStation_49 : decode cX8_tickStation 49 = .ok (.aload_n 3, 1) := by decide +kernel
theorem dX8_tickStation_50 : decode cX8_tickStation 50 = .ok (.aload_n 0, 1) := by decide +kernel
theorem dX8_tickStation_51 : decode cX8_tickStation 51 = .ok (.getfield 10, 3) := by decide +kernel
theorem dX8_tickStation_54 : decode cX8_tickStation 54 = .ok (.getfield 156, 3) := by decide +kernel
theorem dX8_tickStation_57 : decode cX8_tickStation 57 = .ok (.aload_n 0, 1) := by decide +kernel
theorem dX8_tickStation_58 : decode cX8_tickStation 58 = .ok (.getfield 10, 3) := by decide +kernel
theorem dX8_tickStation_61 : decode cX8_tickStation 61 = .ok (.getfield 106, 3) := by decide +kernel
theorem dX8_tickStation_64 : decode cX8_tickStation 64 = .ok (.aload_n 0, 1) := by decide +kernel
theorem dX8_tickStation_65 : decode cX8_tickStation 65 = .ok (.getfield 41, 3) := by decide +kernel
theorem dX8_tickStation_68 : decode cX8_tickStation 68 = .ok (.invokevirtual 262, 3) := by decide +kernel
theorem dX8_tickStation_71 : decode cX8_tickStation 71 = .ok (.aload_n 0, 1) := by decide +kernel
theorem dX8_tickStation_72 : decode cX8_tickStation 72 = .ok (.getfield 10, 3) := by decide +kernel
theorem dX8_tickStation_75 : decode cX8_tickStation 75 = .ok (.dup, 1) := by decide +kernel
theorem dX8_tickStation_76 : decode cX8_tickStation 76 = .ok (.getfield 156, 3) := by decide +kernel
theorem dX8_tickStation_79 : decode cX8_tickStation 79 = .ok (.aload_n 0, 1) := by decide +kernel
theorem dX8_tickStation_80 : decode cX8_tickStation 80 = .ok (.getfield 41, 3) := by decide +kernel
theorem dX8_tickStation_83 : decode cX8_tickStation 83 = .ok (.getfield 243, 3) := by decide +kernel
theorem dX8_tickStation_86 : decode cX8_tickStation 86 = .ok (.isub, 1) := by decide +kernel
theorem dX8_tickStation_87 : decode cX8_tickStation 87 = .ok (.putfield 156, 3) := by decide +kernel
theorem dX8_tickStation_90 : decode cX8_tickStation 90 = .ok (.iload_n 1, 1) := by decide +kernel
theorem dX8_tickStation_91 : decode cX8_tickStation 91 = .ok (.aload_n 0, 1) := by decide +kernel
theorem dX8_tickStation_92 : decode cX8_tickStation 92 = .ok (.getfield 41, 3) := by decide +kernel
theorem dX8_tickStation_95 : decode cX8_tickStation 95 = .ok (.getfield 266, 3) := by decide +kernel
theorem dX8_tickStation_98 : decode cX8_tickStation 98 = .ok (.iadd, 1) := by decide +kernel
theorem dX8_tickStation_99 : decode cX8_tickStation 99 = .ok (.istore_n 1, 1) := by decide +kernel
theorem dX8_tickStation_100 : decode cX8_tickStation 100 = .ok (.aload_n 0, 1) := by decide +kernel
theorem dX8_tickStation_101 : decode cX8_tickStation 101 = .ok (.iload_n 2, 1) := by decide +kernel
theorem dX8_tickStation_102 : decode cX8_tickStation 102 = .ok (.invokevirtual 269, 3) := by decide +kernel
theorem dX8_tickStation_105 : decode cX8_tickStation 105 = .ok (.iinc 2 1, 3) := by decide +kernel
theorem dX8_tickStation_108 : decode cX8_tickStation 108 = .ok (.goto (-90), 3) := by decide +kernel
theorem dX8_tickStation_111 : decode cX8_tickStation 111 = .ok (.aload_n 0, 1) := by decide +kernel
theorem dX8_tickStation_112 : decode cX8_tickStation 112 = .ok (.getfield 10, 3) := by decide +kernel
theorem dX8_tickStation_115 : decode cX8_tickStation 115 = .ok (.dup, 1) := by decide +kernel
theorem dX8_tickStation_116 : decode cX8_tickStation 116 = .ok (.getfield 106, 3) := by decide +kernel
theorem dX8_tickStation_119 : decode cX8_tickStation 119 = .ok (.iconst 1, 1) := by decide +kernel
theorem dX8_tickStation_120 : decode cX8_tickStation 120 = .ok (.iadd, 1) := by decide +kernel
theorem dX8_tickStation_121 : decode cX8_tickStation 121 = .ok (.putfield 106, 3) := by decide +kernel
theorem dX8_tickStation_124 : decode cX8_tickStation 124 = .ok (.iload_n 1, 1) := by decide +kernel
theorem dX8_tickStation_125 : decode cX8_tickStation 125 = .ok (.ireturn, 1) := by decide +kernel
theorem dX8_noteIncidents_0 : decode cX8_noteIncidents 0 = .ok (.aload_n 0, 1) := by decide +kernel
theorem dX8_noteIncidents_1 : decode cX8_noteIncidents 1 = .ok (.getfield 41, 3) := by decide +kernel
theorem dX8_noteIncidents_4 : decode cX8_noteIncidents 4 = .ok (.getfield 272, 3) := by decide +kernel
theorem dX8_noteIncidents_7 : decode cX8_noteIncidents 7 = .ok (.ifCond .eq 25, 3) := by decide +kernel
theorem dX8_noteIncidents_10 : decode cX8_noteIncidents 10 = .ok (.aload_n 0, 1) := by decide +kernel
theorem dX8_noteIncidents_11 : decode cX8_noteIncidents 11 = .ok (.getfield 34, 3) := by decide +kernel
theorem dX8_noteIncidents_14 : decode cX8_noteIncidents 14 = .ok (.aload_n 0, 1) := by decide +kernel
theorem dX8_noteIncidents_15 : decode cX8_noteIncidents 15 = .ok (.getfield 41, 3) := by decide +kernel
theorem dX8_noteIncidents_18 : decode cX8_noteIncidents 18 = .ok (.getfield 272, 3) := by decide +kernel
theorem dX8_noteIncidents_21 : decode cX8_noteIncidents 21 = .ok (.iload_n 1, 1) := by decide +kernel
theorem dX8_noteIncidents_22 : decode cX8_noteIncidents 22 = .ok (.aload_n 0, 1) := by decide +kernel
theorem dX8_noteIncidents_23 : decode cX8_noteIncidents 23 = .ok (.getfield 10, 3) := by decide +kernel
theorem dX8_noteIncidents_26 : decode cX8_noteIncidents 26 = .ok (.getfield 106, 3) := by decide +kernel
theorem dX8_noteIncidents_29 : decode cX8_noteIncidents 29 = .ok (.invokevirtual 275, 3) := by decide +kernel
theorem dX8_noteIncidents_32 : decode cX8_noteIncidents 32 = .ok (.aload_n 0, 1) := by decide +kernel
theorem dX8_noteIncidents_33 : decode cX8_noteIncidents 33 = .ok (.getfield 41, 3) := by decide +kernel
theorem dX8_noteIncidents_36 : decode cX8_noteIncidents 36 = .ok (.getfield 279, 3) := by decide +kernel
theorem dX8_noteIncidents_39 : decode cX8_noteIncidents 39 = .ok (.ifCond .eq 19, 3) := by decide +kernel
theorem dX8_noteIncidents_42 : decode cX8_noteIncidents 42 = .ok (.aload_n 0, 1) := by decide +kernel
theorem dX8_noteIncidents_43 : decode cX8_noteIncidents 43 = .ok (.getfield 34, 3) := by decide +kernel
theorem dX8_noteIncidents_46 : decode cX8_noteIncidents 46 = .ok (.iconst 3, 1) := by decide +kernel
theorem dX8_noteIncidents_47 : decode cX8_noteIncidents 47 = .ok (.iload_n 1, 1) := by decide +kernel
theorem dX8_noteIncidents_48 : decode cX8_noteIncidents 48 = .ok (.aload_n 0, 1) := by decide +kernel
theorem dX8_noteIncidents_49 : decode cX8_noteIncidents 49 = .ok (.getfield 10, 3) := by decide +kernel
theorem dX8_noteIncidents_52 : decode cX8_noteIncidents 52 = .ok (.getfield 106, 3) := by decide +kernel
theorem dX8_noteIncidents_55 : decode cX8_noteIncidents 55 = .ok (.invokevirtual 275, 3) := by decide +kernel
theorem dX8_noteIncidents_58 : decode cX8_noteIncidents 58 = .ok (.return_, 1) := by decide +kernel
theorem dX8_perform_0 : decode cX8_perform 0 = .ok (.aload_n 0, 1) := by decide +kernel
theorem dX8_perform_1 : decode cX8_perform 1 = .ok (.getfield 27, 3) := by decide +kernel
theorem dX8_perform_4 : decode cX8_perform 4 = .ok (.iload_n 1, 1) := by decide +kernel
theorem dX8_perform_5 : decode cX8_perform 5 = .ok (.iconst 1, 1) := by decide +kernel
theorem dX8_perform_6 : decode cX8_perform 6 = .ok (.iadd, 1) := by decide +kernel
theorem dX8_perform_7 : decode cX8_perform 7 = .ok (.invokevirtual 282, 3) := by decide +kernel
theorem dX8_perform_10 : decode cX8_perform 10 = .ok (.istore_n 2, 1) := by decide +kernel
theorem dX8_perform_11 : decode cX8_perform 11 = .ok (.aload_n 0, 1) := by decide +kernel
theorem dX8_perform_12 : decode cX8_perform 12 = .ok (.getfield 27, 3) := by decide +kernel
theorem dX8_perform_15 : decode cX8_perform 15 = .ok (.iload_n 1, 1) := by decide +kernel
theorem dX8_perform_16 : decode cX8_perform 16 = .ok (.invokevirtual 285, 3) := by decide +kernel
theorem dX8_perform_19 : decode cX8_perform 19 = .ok (.tableswitch 118 101 115 #[85, 118, 118, 79, 112, 118, 118, 118, 118, 118, 118, 118, 118, 73, 91], 73) := by decide +kernel
theorem dX8_perform_92 : decode cX8_perform 92 = .ok (.aload_n 0, 1) := by decide +kernel
theorem dX8_perform_93 : decode cX8_perform 93 = .ok (.iload_n 2, 1) := by decide +kernel
theorem dX8_perform_94 : decode cX8_perform 94 = .ok (.invokevirtual 289, 3) := by decide +kernel
theorem dX8_perform_97 : decode cX8_perform 97 = .ok (.ireturn, 1) := by decide +kernel
theorem dX8_perform_98 : decode cX8_perform 98 = .ok (.aload_n 0, 1) := by decide +kernel
theorem dX8_perform_99 : decode cX8_perform 99 = .ok (.iload_n 2, 1) := by decide +kernel
theorem dX8_perform_100 : decode cX8_perform 100 = .ok (.invokevirtual 292, 3) := by decide +kernel
theorem dX8_perform_103 : decode cX8_perform 103 = .ok (.ireturn, 1) := by decide +kernel
theorem dX8_perform_104 : decode cX8_perform 104 = .ok (.aload_n 0, 1) := by decide +kernel
theorem dX8_perform_105 : decode cX8_perform 105 = .ok (.iload_n 2, 1) := by decide +kernel
theorem dX8_perform_106 : decode cX8_perform 106 = .ok (.invokevirtual 295, 3) := by decide +kernel
theorem dX8_perform_109 : decode cX8_perform 109 = .ok (.ireturn, 1) := by decide +kernel
theorem dX8_perform_110 : decode cX8_perform 110 = .ok (.aload_n 0, 1) := by decide +kernel
theorem dX8_perform_111 : decode cX8_perform 111 = .ok (.iload_n 2, 1) := by decide +kernel
theorem dX8_perform_112 : decode cX8_perform 112 = .ok (.aload_n 0, 1) := by decide +kernel
theorem dX8_perform_113 : decode cX8_perform 113 = .ok (.iload_n 2, 1) := by decide +kernel
theorem dX8_perform_114 : decode cX8_perform 114 = .ok (.invokevirtual 298, 3) := by decide +kernel
theorem dX8_perform_117 : decode cX8_perform 117 = .ok (.aload_n 0, 1) := by decide +kernel
theorem dX8_perform_118 : decode cX8_perform 118 = .ok (.getfield 27, 3) := by decide +kernel
theorem dX8_perform_121 : decode cX8_perform 121 = .ok (.iload_n 1, 1) := by decide +kernel
theorem dX8_perform_122 : decode cX8_perform 122 = .ok (.iconst 3, 1) := by decide +kernel
theorem dX8_perform_123 : decode cX8_perform 123 = .ok (.iadd, 1) := by decide +kernel
theorem dX8_perform_124 : decode cX8_perform 124 = .ok (.invokevirtual 282, 3) := by decide +kernel
theorem dX8_perform_127 : decode cX8_perform 127 = .ok (.invokevirtual 301, 3) := by decide +kernel
theorem dX8_perform_130 : decode cX8_perform 130 = .ok (.ireturn, 1) := by decide +kernel
theorem dX8_perform_131 : decode cX8_perform 131 = .ok (.aload_n 0, 1) := by decide +kernel
theorem dX8_perform_132 : decode cX8_perform 132 = .ok (.iload_n 2, 1) := by decide +kernel
theorem dX8_perform_133 : decode cX8_perform 133 = .ok (.invokevirtual 305, 3) := by decide +kernel
theorem dX8_perform_136 : decode cX8_perform 136 = .ok (.ireturn, 1) := by decide +kernel
theorem dX8_perform_137 : decode cX8_perform 137 = .ok (.aload_n 0, 1) := by decide +kernel
theorem dX8_perform_138 : decode cX8_perform 138 = .ok (.iload_n 2, 1) := by decide +kernel
theorem dX8_perform_139 : decode cX8_perform 139 = .ok (.invokevirtual 308, 3) := by decide +kernel
theorem dX8_perform_142 : decode cX8_perform 142 = .ok (.ireturn, 1) := by decide +kernel
theorem dX8_valveKindOf_0 : decode cX8_valveKindOf 0 = .ok (.aload_n 0, 1) := by decide +kernel
theorem dX8_valveKindOf_1 : decode cX8_valveKindOf 1 = .ok (.getfield 10, 3) := by decide +kernel
theorem dX8_valveKindOf_4 : decode cX8_valveKindOf 4 = .ok (.iload_n 1, 1) := by decide +kernel
theorem dX8_valveKindOf_5 : decode cX8_valveKindOf 5 = .ok (.invokevirtual 72, 3) := by decide +kernel
theorem dX8_valveKindOf_8 : decode cX8_valveKindOf 8 = .ok (.astore_n 2, 1) := by decide +kernel
theorem dX8_valveKindOf_9 : decode cX8_valveKindOf 9 = .ok (.aload_n 2, 1) := by decide +kernel
theorem dX8_valveKindOf_10 : decode cX8_valveKindOf 10 = .ok (.ifnonnull 7, 3) := by decide +kernel
theorem dX8_valveKindOf_13 : decode cX8_valveKindOf 13 = .ok (.iconst 0, 1) := by decide +kernel
theorem dX8_valveKindOf_14 : decode cX8_valveKindOf 14 = .ok (.goto 7, 3) := by decide +kernel
theorem dX8_valveKindOf_17 : decode cX8_valveKindOf 17 = .ok (.aload_n 2, 1) := by decide +kernel
theorem dX8_valveKindOf_18 : decode cX8_valveKindOf 18 = .ok (.getfield 83, 3) := by decide +kernel
theorem dX8_valveKindOf_21 : decode cX8_valveKindOf 21 = .ok (.ireturn, 1) := by decide +kernel
theorem dX8_tickTrial_0 : decode cX8_tickTrial 0 = .ok (.aload_n 0, 1) := by decide +kernel
theorem dX8_tickTrial_1 : decode cX8_tickTrial 1 = .ok (.getfield 50, 3) := by decide +kernel
theorem dX8_tickTrial_4 : decode cX8_tickTrial 4 = .ok (.ldc_w 311, 3) := by decide +kernel
theorem dX8_tickTrial_7 : decode cX8_tickTrial 7 = .ok (.aload_n 0, 1) := by decide +kernel
theorem dX8_tickTrial_8 : decode cX8_tickTrial 8 = .ok (.getfield 10, 3) := by decide +kernel
theorem dX8_tickTrial_11 : decode cX8_tickTrial 11 = .ok (.getfield 106, 3) := by decide +kernel
theorem dX8_tickTrial_14 : decode cX8_tickTrial 14 = .ok (.aload_n 0, 1) := by decide +kernel
theorem dX8_tickTrial_15 : decode cX8_tickTrial 15 = .ok (.getfield 41, 3) := by decide +kernel
theorem dX8_tickTrial_18 : decode cX8_tickTrial 18 = .ok (.invokevirtual 262, 3) := by decide +kernel
theorem dX8_tickTrial_21 : decode cX8_tickTrial 21 = .ok (.return_, 1) := by decide +kernel
theorem dX8_trialDelivery_0 : decode cX8_trialDelivery 0 = .ok (.iconst 0, 1) := by decide +kernel
theorem dX8_trialDelivery_1 : decode cX8_trialDelivery 1 = .ok (.istore_n 2, 1) := by decide +kernel
theorem dX8_trialDelivery_2 : decode cX8_trialDelivery 2 = .ok (.iconst 0, 1) := by decide +kernel
theorem dX8_trialDelivery_3 : decode cX8_trialDelivery 3 = .ok (.istore_n 3, 1) := by decide +kernel
theorem dX8_trialDelivery_4 : decode cX8_trialDelivery 4 = .ok (.iload_n 3, 1) := by decide +kernel
theorem dX8_trialDelivery_5 : decode cX8_trialDelivery 5 = .ok (.iload_n 1, 1) := by decide +kernel
theorem dX8_trialDelivery_6 : decode cX8_trialDelivery 6 = .ok (.if_icmp .ge 23, 3) := by decide +kernel
theorem dX8_trialDelivery_9 : decode cX8_trialDelivery 9 = .ok (.aload_n 0, 1) := by decide +kernel
theorem dX8_trialDelivery_10 : decode cX8_trialDelivery 10 = .ok (.invokevirtual 234, 3) := by decide +kernel
theorem dX8_trialDelivery_13 : decode cX8_trialDelivery 13 = .ok (.iload_n 2, 1) := by decide +kernel
theorem dX8_trialDelivery_14 : decode cX8_trialDelivery 14 = .ok (.aload_n 0, 1) := by decide +kernel
theorem dX8_trialDelivery_15 : decode cX8_trialDelivery 15 = .ok (.getfield 41, 3) := by decide +kernel
theorem dX8_trialDelivery_18 : decode cX8_trialDelivery 18 = .ok (.getfield 266, 3) := by decide +kernel
theorem dX8_trialDelivery_21 : decode cX8_trialDelivery 21 = .ok (.iadd, 1) := by decide +kernel
theorem dX8_trialDelivery_22 : decode cX8_trialDelivery 22 = .ok (.istore_n 2, 1) := by decide +kernel
theorem dX8_trialDelivery_23 : decode cX8_trialDelivery 23 = .ok (.iinc 3 1, 3) := by decide +kernel
theorem dX8_trialDelivery_26 : decode cX8_trialDelivery 26 = .ok (.goto (-22), 3) := by decide +kernel
theorem dX8_trialDelivery_29 : decode cX8_trialDelivery 29 = .ok (.iload_n 2, 1) := by decide +kernel
theorem dX8_trialDelivery_30 : decode cX8_trialDelivery 30 = .ok (.ireturn, 1) := by decide +kernel
theorem dX8_deliveryFromRest_0 : decode cX8_deliveryFromRest 0 = .ok (.aload_n 0, 1) := by decide +kernel
theorem dX8_deliveryFromRest_1 : decode cX8_deliveryFromRest 1 = .ok (.getfield 50, 3) := by decide +kernel
theorem dX8_deliveryFromRest_4 : decode cX8_deliveryFromRest 4 = .ok (.aload_n 1, 1) := by decide +kernel
theorem dX8_deliveryFromRest_5 : decode cX8_deliveryFromRest 5 = .ok (.invokevirtual 231, 3) := by decide +kernel
theorem dX8_deliveryFromRest_8 : decode cX8_deliveryFromRest 8 = .ok (.aload_n 0, 1) := by decide +kernel
theorem dX8_deliveryFromRest_9 : decode cX8_deliveryFromRest 9 = .ok (.getfield 50, 3) := by decide +kernel
theorem dX8_deliveryFromRest_12 : decode cX8_deliveryFromRest 12 = .ok (.invokevirtual 116, 3) := by decide +kernel
theorem dX8_deliveryFromRest_15 : decode cX8_deliveryFromRest 15 = .ok (.aload_n 0, 1) := by decide +kernel
theorem dX8_deliveryFromRest_16 : decode cX8_deliveryFromRest 16 = .ok (.getfield 50, 3) := by decide +kernel
theorem dX8_deliveryFromRest_19 : decode cX8_deliveryFromRest 19 = .ok (.iload_n 2, 1) := by decide +kernel
theorem dX8_deliveryFromRest_20 : decode cX8_deliveryFromRest 20 = .ok (.putfield 259, 3) := by decide +kernel
theorem dX8_deliveryFromRest_23 : decode cX8_deliveryFromRest 23 = .ok (.aload_n 0, 1) := by decide +kernel
theorem dX8_deliveryFromRest_24 : decode cX8_deliveryFromRest 24 = .ok (.getfield 50, 3) := by decide +kernel
theorem dX8_deliveryFromRest_27 : decode cX8_deliveryFromRest 27 = .ok (.iload_n 3, 1) := by decide +kernel
theorem dX8_deliveryFromRest_28 : decode cX8_deliveryFromRest 28 = .ok (.putfield 80, 3) := by decide +kernel
theorem dX8_deliveryFromRest_31 : decode cX8_deliveryFromRest 31 = .ok (.aload_n 0, 1) := by decide +kernel
theorem dX8_deliveryFromRest_32 : decode cX8_deliveryFromRest 32 = .ok (.iload 4, 2) := by decide +kernel
theorem dX8_deliveryFromRest_34 : decode cX8_deliveryFromRest 34 = .ok (.invokevirtual 240, 3) := by decide +kernel
theorem dX8_deliveryFromRest_37 : decode cX8_deliveryFromRest 37 = .ok (.ireturn, 1) := by decide +kernel
theorem dX8_ticksFromSlamLikeLast_0 : decode cX8_ticksFromSlamLikeLast 0 = .ok (.iconst (-1), 1) := by decide +kernel
theorem dX8_ticksFromSlamLikeLast_1 : decode cX8_ticksFromSlamLikeLast 1 = .ok (.istore_n 1, 1) := by decide +kernel
theorem dX8_ticksFromSlamLikeLast_2 : decode cX8_ticksFromSlamLikeLast 2 = .ok (.ldc2_w 250, 3) := by decide +kernel
theorem dX8_ticksFromSlamLikeLast_5 : decode cX8_ticksFromSlamLikeLast 5 = .ok (.lstore_n 2, 1) := by decide +kernel
theorem dX8_ticksFromSlamLikeLast_6 : decode cX8_ticksFromSlamLikeLast 6 = .ok (.aload_n 0, 1) := by decide +kernel
theorem dX8_ticksFromSlamLikeLast_7 : decode cX8_ticksFromSlamLikeLast 7 = .ok (.getfield 54, 3) := by decide +kernel
theorem dX8_ticksFromSlamLikeLast_10 : decode cX8_ticksFromSlamLikeLast 10 = .ok (.arraylength, 1) := by decide +kernel
theorem dX8_ticksFromSlamLikeLast_11 : decode cX8_ticksFromSlamLikeLast 11 = .ok (.iconst 1, 1) := by decide +kernel
theorem dX8_ticksFromSlamLikeLast_12 : decode cX8_ticksFromSlamLikeLast 12 = .ok (.isub, 1) := by decide +kernel
theorem dX8_ticksFromSlamLikeLast_13 : decode cX8_ticksFromSlamLikeLast 13 = .ok (.istore 4, 2) := by decide +kernel
theorem dX8_ticksFromSlamLikeLast_15 : decode cX8_ticksFromSlamLikeLast 15 = .ok (.iload 4, 2) := by decide +kernel
theorem dX8_ticksFromSlamLikeLast_17 : decode cX8_ticksFromSlamLikeLast 17 = .ok (.ifCond .lt 58, 3) := by decide +kernel
theorem dX8_ticksFromSlamLikeLast_20 : decode cX8_ticksFromSlamLikeLast 20 = .ok (.aload_n 0, 1) := by decide +kernel
theorem dX8_ticksFromSlamLikeLast_21 : decode cX8_ticksFromSlamLikeLast 21 = .ok (.getfield 54, 3) := by decide +kernel
theorem dX8_ticksFromSlamLikeLast_24 : decode cX8_ticksFromSlamLikeLast 24 = .ok (.iload 4, 2) := by decide +kernel
theorem dX8_ticksFromSlamLikeLast_26 : decode cX8_ticksFromSlamLikeLast 26 = .ok (.laload, 1) := by decide +kernel
theorem dX8_ticksFromSlamLikeLast_27 : decode cX8_ticksFromSlamLikeLast 27 = .ok (.lstore 5, 2) := by decide +kernel
theorem dX8_ticksFromSlamLikeLast_29 : decode cX8_ticksFromSlamLikeLast 29 = .ok (.lload 5, 2) := by decide +kernel
theorem dX8_ticksFromSlamLikeLast_31 : decode cX8_ticksFromSlamLikeLast 31 = .ok (.ldc2_w 250, 3) := by decide +kernel
theorem dX8_ticksFromSlamLikeLast_34 : decode cX8_ticksFromSlamLikeLast 34 = .ok (.lcmp, 1) := by decide +kernel
theorem dX8_ticksFromSlamLikeLast_35 : decode cX8_ticksFromSlamLikeLast 35 = .ok (.ifCond .eq 15, 3) := by decide +kernel
theorem dX8_ticksFromSlamLikeLast_38 : decode cX8_ticksFromSlamLikeLast 38 = .ok (.lload 5, 2) := by decide +kernel
theorem dX8_ticksFromSlamLikeLast_40 : decode cX8_ticksFromSlamLikeLast 40 = .ok (.lload_n 2, 1) := by decide +kernel
theorem dX8_ticksFromSlamLikeLast_41 : decode cX8_ticksFromSlamLikeLast 41 = .ok (.lcmp, 1) := by decide +kernel
theorem dX8_ticksFromSlamLikeLast_42 : decode cX8_ticksFromSlamLikeLast 42 = .ok (.ifCond .ne 8, 3) := by decide +kernel
theorem dX8_ticksFromSlamLikeLast_45 : decode cX8_ticksFromSlamLikeLast 45 = .ok (.iload_n 1, 1) := by decide +kernel
theorem dX8_ticksFromSlamLikeLast_46 : decode cX8_ticksFromSlamLikeLast 46 = .ok (.iload 4, 2) := by decide +kernel
theorem dX8_ticksFromSlamLikeLast_48 : decode cX8_ticksFromSlamLikeLast 48 = .ok (.isub, 1) := by decide +kernel
theorem dX8_ticksFromSlamLikeLast_49 : decode cX8_ticksFromSlamLikeLast 49 = .ok (.ireturn, 1) := by decide +kernel
theorem dX8_ticksFromSlamLikeLast_50 : decode cX8_ticksFromSlamLikeLast 50 = .ok (.lload 5, 2) := by decide +kernel
theorem dX8_ticksFromSlamLikeLast_52 : decode cX8_ticksFromSlamLikeLast 52 = .ok (.ldc2_w 250, 3) := by decide +kernel
theorem dX8_ticksFromSlamLikeLast_55 : decode cX8_ticksFromSlamLikeLast 55 = .ok (.lcmp, 1) := by decide +kernel
theorem dX8_ticksFromSlamLikeLast_56 : decode cX8_ticksFromSlamLikeLast 56 = .ok (.ifCond .eq 13, 3) := by decide +kernel
theorem dX8_ticksFromSlamLikeLast_59 : decode cX8_ticksFromSlamLikeLast 59 = .ok (.iload_n 1, 1) := by decide +kernel
theorem dX8_ticksFromSlamLikeLast_60 : decode cX8_ticksFromSlamLikeLast 60 = .ok (.ifCond .ge 9, 3) := by decide +kernel
theorem dX8_ticksFromSlamLikeLast_63 : decode cX8_ticksFromSlamLikeLast 63 = .ok (.iload 4, 2) := by decide +kernel
theorem dX8_ticksFromSlamLikeLast_65 : decode cX8_ticksFromSlamLikeLast 65 = .ok (.istore_n 1, 1) := by decide +kernel
theorem dX8_ticksFromSlamLikeLast_66 : decode cX8_ticksFromSlamLikeLast 66 = .ok (.lload 5, 2) := by decide +kernel
theorem dX8_ticksFromSlamLikeLast_68 : decode cX8_ticksFromSlamLikeLast 68 = .ok (.lstore_n 2, 1) := by decide +kernel
theorem dX8_ticksFromSlamLikeLast_69 : decode cX8_ticksFromSlamLikeLast 69 = .ok (.iinc 4 (-1), 3) := by decide +kernel
theorem dX8_ticksFromSlamLikeLast_72 : decode cX8_ticksFromSlamLikeLast 72 = .ok (.goto (-57), 3) := by decide +kernel
theorem dX8_ticksFromSlamLikeLast_75 : decode cX8_ticksFromSlamLikeLast 75 = .ok (.sipush (-1005), 3) := by decide +kernel
theorem dX8_ticksFromSlamLikeLast_78 : decode cX8_ticksFromSlamLikeLast 78 = .ok (.ireturn, 1) := by decide +kernel
theorem dX9_init_0 : decode cX9_init 0 = .ok (.aload_n 0, 1) := by decide +kernel
theorem dX9_init_1 : decode cX9_init 1 = .ok (.invokespecial 1, 3) := by decide +kernel
theorem dX9_init_4 : decode cX9_init 4 = .ok (.aload_n 0, 1) := by decide +kernel
theorem dX9_init_5 : decode cX9_init 5 = .ok (.sipush 370, 3) := by decide +kernel
theorem dX9_init_8 : decode cX9_init 8 = .ok (.newarray .int, 2) := by decide +kernel
theorem dX9_init_10 : decode cX9_init 10 = .ok (.putfield 7, 3) := by decide +kernel
theorem dX9_init_13 : decode cX9_init 13 = .ok (.aload_n 0, 1) := by decide +kernel
theorem dX9_init_14 : decode cX9_init 14 = .ok (.sipush 2376, 3) := by decide +kernel
theorem dX9_init_17 : decode cX9_init 17 = .ok (.newarray .int, 2) := by decide +kernel
theorem dX9_init_19 : decode cX9_init 19 = .ok (.putfield 13, 3) := by decide +kernel
theorem dX9_init_22 : decode cX9_init 22 = .ok (.aload_n 0, 1) := by decide +kernel
theorem dX9_init_23 : decode cX9_init 23 = .ok (.bipush 20, 2) := by decide +kernel
theorem dX9_init_25 : decode cX9_init 25 = .ok (.newarray .int, 2) := by decide +kernel
theorem dX9_init_27 : decode cX9_init 27 = .ok (.putfield 16, 3) := by decide +kernel
theorem dX9_init_30 : decode cX9_init 30 = .ok (.aload_n 0, 1) := by decide +kernel
theorem dX9_init_31 : decode cX9_init 31 = .ok (.bipush 20, 2) := by decide +kernel
theorem dX9_init_33 : decode cX9_init 33 = .ok (.newarray .int, 2) := by decide +kernel
theorem dX9_init_35 : decode cX9_init 35 = .ok (.putfield 19, 3) := by decide +kernel
theorem dX9_init_38 : decode cX9_init 38 = .ok (.aload_n 0, 1) := by decide +kernel
theorem dX9_init_39 : decode cX9_init 39 = .ok (.bipush 20, 2) := by decide +kernel
theorem dX9_init_41 : decode cX9_init 41 = .ok (.newarray .int, 2) := by decide +kernel
theorem dX9_init_43 : decode cX9_init 43 = .ok (.putfield 22, 3) := by decide +kernel
theorem dX9_init_46 : decode cX9_init 46 = .ok (.aload_n 0, 1) := by decide +kernel
theorem dX9_init_47 : decode cX9_init 47 = .ok (.bipush 40, 2) := by decide +kernel
theorem dX9_init_49 : decode cX9_init 49 = .ok (.newarray .int, 2) := by decide +kernel
theorem dX9_init_51 : decode cX9_init 51 = .ok (.putfield 25, 3) := by decide +kernel
theorem dX9_init_54 : decode cX9_init 54 = .ok (.aload_n 0, 1) := by decide +kernel
theorem dX9_init_55 : decode cX9_init 55 = .ok (.sipush (-1005), 3) := by decide +kernel
theorem dX9_init_58 : decode cX9_init 58 = .ok (.putfield 28, 3) := by decide +kernel
theorem dX9_init_61 : decode cX9_init 61 = .ok (.aload_n 0, 1) := by decide +kernel
theorem dX9_init_62 : decode cX9_init 62 = .ok (.sipush 8000, 3) := by decide +kernel
theorem dX9_init_65 : decode cX9_init 65 = .ok (.newarray .int, 2) := by decide +kernel
theorem dX9_init_67 : decode cX9_init 67 = .ok (.putfield 32, 3) := by decide +kernel
theorem dX9_init_70 : decode cX9_init 70 = .ok (.aload_n 0, 1) := by decide +kernel
theorem dX9_init_71 : decode cX9_init 71 = .ok (.getfield 7, 3) := by decide +kernel
theorem dX9_init_74 : decode cX9_init 74 = .ok (.iconst 0, 1) := by decide +kernel
theorem dX9_init_75 : decode cX9_init 75 = .ok (.sipush 5000, 3) := by decide +kernel
theorem dX9_init_78 : decode cX9_init 78 = .ok (.iastore, 1) := by decide +kernel
theorem dX9_init_79 : decode cX9_init 79 = .ok (.aload_n 0, 1) := by decide +kernel
theorem dX9_init_80 : decode cX9_init 80 = .ok (.getfield 7, 3) := by decide +kernel
theorem dX9_init_83 : decode cX9_init 83 = .ok (.iconst 1, 1) := by decide +kernel
theorem dX9_init_84 : decode cX9_init 84 = .ok (.bipush 100, 2) := by decide +kernel
theorem dX9_init_86 : decode cX9_init 86 = .ok (.iastore, 1) := by decide +kernel
theorem dX9_init_87 : decode cX9_init 87 = .ok (.return_, 1) := by decide +kernel
theorem dX9_in_0 : decode cX9_in 0 = .ok (.iload_n 0, 1) := by decide +kernel
theorem dX9_in_1 : decode cX9_in 1 = .ok (.iload_n 1, 1) := by decide +kernel
theorem dX9_in_2 : decode cX9_in 2 = .ok (.if_icmp .lt 12, 3) := by decide +kernel
theorem dX9_in_5 : decode cX9_in 5 = .ok (.iload_n 0, 1) := by decide +kernel
theorem dX9_in_6 : decode cX9_in 6 = .ok (.iload_n 2, 1) := by decide +kernel
theorem dX9_in_7 : decode cX9_in 7 = .ok (.if_icmp .gt 7, 3) := by decide +kernel
theorem dX9_in_10 : decode cX9_in 10 = .ok (.iconst 1, 1) := by decide +kernel
theorem dX9_in_11 : decode cX9_in 11 = .ok (.goto 4, 3) := by decide +kernel
theorem dX9_in_14 : decode cX9_in 14 = .ok (.iconst 0, 1) := by decide +kernel
theorem dX9_in_15 : decode cX9_in 15 = .ok (.ireturn, 1) := by decide +kernel
theorem dX9_isPump_0 : decode cX9_isPump 0 = .ok (.iload_n 1, 1) := by decide +kernel
theorem dX9_isPump_1 : decode cX9_isPump 1 = .ok (.iconst 0, 1) := by decide +kernel
theorem dX9_isPump_2 : decode cX9_isPump 2 = .ok (.aload_n 0, 1) := by decide +kernel
theorem dX9_isPump_3 : decode cX9_isPump 3 = .ok (.getfield 7, 3) := by decide +kernel
theorem dX9_isPump_6 : decode cX9_isPump 6 = .ok (.iconst 4, 1) := by decide +kernel
theorem dX9_isPump_7 : decode cX9_isPump 7 = .ok (.iaload, 1) := by decide +kernel
theorem dX9_isPump_8 : decode cX9_isPump 8 = .ok (.iconst 1, 1) := by decide +kernel
theorem dX9_isPump_9 : decode cX9_isPump 9 = .ok (.isub, 1) := by decide +kernel
theorem dX9_isPump_10 : decode cX9_isPump 10 = .ok (.invokestatic 35, 3) := by decide +kernel
theorem dX9_isPump_13 : decode cX9_isPump 13 = .ok (.ireturn, 1) := by decide +kernel
theorem dX9_at_0 : decode cX9_at 0 = .ok (.iconst 5, 1) := by decide +kernel
theorem dX9_at_1 : decode cX9_at 1 = .ok (.bipush 73, 2) := by decide +kernel
theorem dX9_at_3 : decode cX9_at 3 = .ok (.iload_n 0, 1) := by decide +kernel
theorem dX9_at_4 : decode cX9_at 4 = .ok (.imul, 1) := by decide +kernel
theorem dX9_at_5 : decode cX9_at 5 = .ok (.iadd, 1) := by decide +kernel
theorem dX9_at_6 : decode cX9_at 6 = .ok (.ireturn, 1) := by decide +kernel
theorem dX9_running_0 : decode cX9_running 0 = .ok (.iconst 0, 1) := by decide +kernel
theorem dX9_running_1 : decode cX9_running 1 = .ok (.istore_n 1, 1) := by decide +kernel
theorem dX9_running_2 : decode cX9_running 2 = .ok (.iconst 0, 1) := by decide +kernel
theorem dX9_running_3 : decode cX9_running 3 = .ok (.istore_n 2, 1) := by decide +kernel
theorem dX9_running_4 : decode cX9_running 4 = .ok (.iload_n 2, 1) := by decide +kernel
theorem dX9_running_5 : decode cX9_running 5 = .ok (.aload_n 0, 1) := by decide +kernel
theorem dX9_running_6 : decode cX9_running 6 = .ok (.getfield 7, 3) := by decide +kernel
theorem dX9_running_9 : decode cX9_running 9 = .ok (.iconst 4, 1) := by decide +kernel
theorem dX9_running_10 : decode cX9_running 10 = .ok (.iaload, 1) := by decide +kernel
theorem dX9_running_11 : decode cX9_running 11 = .ok (.if_icmp .ge 23, 3) := by decide +kernel
theorem dX9_running_14 : decode cX9_running 14 = .ok (.iload_n 1, 1) := by decide +kernel
theorem dX9_running_15 : decode cX9_running 15 = .ok (.aload_n 0, 1) := by decide +kernel
theorem dX9_running_16 : decode cX9_running 16 = .ok (.getfield 7, 3) := by decide +kernel
theorem dX9_running_19 : decode cX9_running 19 = .ok (.iload_n 2, 1) := by decide +kernel
theorem dX9_running_20 : decode cX9_running 20 = .ok (.invokestatic 39, 3) := by decide +kernel
theorem dX9_running_23 : decode cX9_running 23 = .ok (.iconst 5, 1) := by decide +kernel
theorem dX9_running_24 : decode cX9_running 24 = .ok (.iadd, 1) := by decide +kernel
theorem dX9_running_25 : decode cX9_running 25 = .ok (.iaload, 1) := by decide +kernel
theorem dX9_running_26 : decode cX9_running 26 = .ok (.iadd, 1) := by decide +kernel
theorem dX9_running_27 : decode cX9_running 27 = .ok (.istore_n 1, 1) := by decide +kernel
theorem dX9_running_28 : decode cX9_running 28 = .ok (.iinc 2 1, 3) := by decide +kernel
theorem dX9_running_31 : decode cX9_running 31 = .ok (.goto (-27), 3) := by decide +kernel
theorem dX9_running_34 : decode cX9_running 34 = .ok (.iload_n 1, 1) := by decide +kernel
theorem dX9_running_35 : decode cX9_running 35 = .ok (.ireturn, 1) := by decide +kernel
theorem dX9_record_0 : decode cX9_record 0 = .ok (.aload_n 0, 1) := by decide +kernel
theorem dX9_record_1 : decode cX9_record 1 = .ok (.getfield 43, 3) := by decide +kernel
theorem dX9_record_4 : decode cX9_record 4 = .ok (.bipush 8, 2) := by decide +kernel
theorem dX9_record_6 : decode cX9_record 6 = .ok (.if_icmp .ne 46, 3) := by decide +kernel
theorem dX9_record_9 : decode cX9_record 9 = .ok (.sipush 297, 3) := by decide +kernel
theorem dX9_record_12 : decode cX9_record 12 = .ok (.istore_n 1, 1) := by decide +kernel
theorem dX9_record_13 : decode cX9_record 13 = .ok (.iload_n 1, 1) := by decide +kernel
theorem dX9_record_14 : decode cX9_record 14 = .ok (.sipush 2376, 3) := by decide +kernel
theorem dX9_record_17 : decode cX9_record 17 = .ok (.if_icmp .ge 25, 3) := by decide +kernel
theorem dX9_record_20 : decode cX9_record 20 = .ok (.aload_n 0, 1) := by decide +kernel
theorem dX9_record_21 : decode cX9_record 21 = .ok (.getfield 13, 3) := by decide +kernel
theorem dX9_record_24 : decode cX9_record 24 = .ok (.iload_n 1, 1) := by decide +kernel
theorem dX9_record_25 : decode cX9_record 25 = .ok (.sipush 297, 3) := by decide +kernel
theorem dX9_record_28 : decode cX9_record 28 = .ok (.isub, 1) := by decide +kernel
theorem dX9_record_29 : decode cX9_record 29 = .ok (.aload_n 0, 1) := by decide +kernel
theorem dX9_record_30 : decode cX9_record 30 = .ok (.getfield 13, 3) := by decide +kernel
theorem dX9_record_33 : decode cX9_record 33 = .ok (.iload_n 1, 1) := by decide +kernel
theorem dX9_record_34 : decode cX9_record 34 = .ok (.iaload, 1) := by decide +kernel
theorem dX9_record_35 : decode cX9_record 35 = .ok (.iastore, 1) := by decide +kernel
theorem dX9_record_36 : decode cX9_record 36 = .ok (.iinc 1 1, 3) := by decide +kernel
theorem dX9_record_39 : decode cX9_record 39 = .ok (.goto (-26), 3) := by decide +kernel
theorem dX9_record_42 : decode cX9_record 42 = .ok (.aload_n 0, 1) := by decide +kernel
theorem dX9_record_43 : decode cX9_record 43 = .ok (.dup, 1) := by decide +kernel
theorem dX9_record_44 : decode cX9_record 44 = .ok (.getfield 43, 3) := by decide +kernel
theorem dX9_record_47 : decode cX9_record 47 = .ok (.iconst 1, 1) := by decide +kernel
theorem dX9_record_48 : decode cX9_record 48 = .ok (.isub, 1) := by decide +kernel
theorem dX9_record_49 : decode cX9_record 49 = .ok (.putfield 43, 3) := by decide +kernel
theorem dX9_record_52 : decode cX9_record 52 = .ok (.iconst 0, 1) := by decide +kernel
theorem dX9_record_53 : decode cX9_record 53 = .ok (.istore_n 1, 1) := by decide +kernel
theorem dX9_record_54 : decode cX9_record 54 = .ok (.iload_n 1, 1) := by decide +kernel
theorem dX9_record_55 : decode cX9_record 55 = .ok (.sipush 297, 3) := by decide +kernel
theorem dX9_record_58 : decode cX9_record 58 = .ok (.if_icmp .ge 30, 3) := by decide +kernel
theorem dX9_record_61 : decode cX9_record 61 = .ok (.aload_n 0, 1) := by decide +kernel
theorem dX9_record_62 : decode cX9_record 62 = .ok (.getfield 13, 3) := by decide +kernel
theorem dX9_record_65 : decode cX9_record 65 = .ok (.sipush 297, 3) := by decide +kernel
theorem dX9_record_68 : decode cX9_record 68 = .ok (.aload_n 0, 1) := by decide +kernel
theorem dX9_record_69 : decode cX9_record 69 = .ok (.getfield 43, 3) := by decide +kernel
theorem dX9_record_72 : decode cX9_record 72 = .ok (.imul, 1) := by decide +kernel
theorem dX9_record_73 : decode cX9_record 73 = .ok (.iload_n 1, 1) := by decide +kernel
theorem dX9_record_74 : decode cX9_record 74 = .ok (.iadd, 1) := by decide +kernel
theorem dX9_record_75 : decode cX9_record 75 = .ok (.aload_n 0, 1) := by decide +kernel
theorem dX9_record_76 : decode cX9_record 76 = .ok (.getfield 7, 3) := by decide +kernel
theorem dX9_record_79 : decode cX9_record 79 = .ok (.iload_n 1, 1) := by decide +kernel
theorem dX9_record_80 : decode cX9_record 80 = .ok (.iaload, 1) := by decide +kernel
theorem dX9_record_81 : decode cX9_record 81 = .ok (.iastore, 1) := by decide +kernel
theorem dX9_record_82 : decode cX9_record 82 = .ok (.iinc 1 1, 3) := by decide +kernel
theorem dX9_record_85 : decode cX9_record 85 = .ok (.goto (-31), 3) := by decide +kernel
theorem dX9_record_88 : decode cX9_record 88 = .ok (.aload_n 0, 1) := by decide +kernel
theorem dX9_record_89 : decode cX9_record 89 = .ok (.dup, 1) := by decide +kernel
theorem dX9_record_90 : decode cX9_record 90 = .ok (.getfield 43, 3) := by decide +kernel
theorem dX9_record_93 : decode cX9_record 93 = .ok (.iconst 1, 1) := by decide +kernel
theorem dX9_record_94 : decode cX9_record 94 = .ok (.iadd, 1) := by decide +kernel
theorem dX9_record_95 : decode cX9_record 95 = .ok (.putfield 43, 3) := by decide +kernel
theorem dX9_record_98 : decode cX9_record 98 = .ok (.return_, 1) := by decide +kernel
theorem dX9_undo_0 : decode cX9_undo 0 = .ok (.aload_n 0, 1) := by decide +kernel
theorem dX9_undo_1 : decode cX9_undo 1 = .ok (.getfield 43, 3) := by decide +kernel
theorem dX9_undo_4 : decode cX9_undo 4 = .ok (.ifCond .ne 7, 3) := by decide +kernel
theorem dX9_undo_7 : decode cX9_undo 7 = .ok (.sipush (-1005), 3) := by decide +kernel
theorem dX9_undo_10 : decode cX9_undo 10 = .ok (.ireturn, 1) := by decide +kernel
theorem dX9_undo_11 : decode cX9_undo 11 = .ok (.aload_n 0, 1) := by decide +kernel
theorem dX9_undo_12 : decode cX9_undo 12 = .ok (.dup, 1) := by decide +kernel
theorem dX9_undo_13 : decode cX9_undo 13 = .ok (.getfield 43, 3) := by decide +kernel
theorem dX9_undo_16 : decode cX9_undo 16 = .ok (.iconst 1, 1) := by decide +kernel
theorem dX9_undo_17 : decode cX9_undo 17 = .ok (.isub, 1) := by decide +kernel
theorem dX9_undo_18 : decode cX9_undo 18 = .ok (.putfield 43, 3) := by decide +kernel
theorem dX9_undo_21 : decode cX9_undo 21 = .ok (.iconst 0, 1) := by decide +kernel
theorem dX9_undo_22 : decode cX9_undo 22 = .ok (.istore_n 1, 1) := by decide +kernel
theorem dX9_undo_23 : decode cX9_undo 23 = .ok (.iload_n 1, 1) := by decide +kernel
theorem dX9_undo_24 : decode cX9_undo 24 = .ok (.sipush 297, 3) := by decide +kernel
theorem dX9_undo_27 : decode cX9_undo 27 = .ok (.if_icmp .ge 30, 3) := by decide +kernel
theorem dX9_undo_30 : decode cX9_undo 30 = .ok (.aload_n 0, 1) := by decide +kernel
theorem dX9_undo_31 : decode cX9_undo 31 = .ok (.getfield 7, 3) := by decide +kernel
theorem dX9_undo_34 : decode cX9_undo 34 = .ok (.iload_n 1, 1) := by decide +kernel
theorem dX9_undo_35 : decode cX9_undo 35 = .ok (.aload_n 0, 1) := by decide +kernel
theorem dX9_undo_36 : decode cX9_undo 36 = .ok (.getfield 13, 3) := by decide +kernel
theorem dX9_undo_39 : decode cX9_undo 39 = .ok (.sipush 297, 3) := by decide +kernel
theorem dX9_undo_42 : decode cX9_undo 42 = .ok (.aload_n 0, 1) := by decide +kernel
theorem dX9_undo_43 : decode cX9_undo 43 = .ok (.getfield 43, 3) := by decide +kernel
theorem dX9_undo_46 : decode cX9_undo 46 = .ok (.imul, 1) := by decide +kernel
theorem dX9_undo_47 : decode cX9_undo 47 = .ok (.iload_n 1, 1) := by decide +kernel
theorem dX9_undo_48 : decode cX9_undo 48 = .ok (.iadd, 1) := by decide +kernel
theorem dX9_undo_49 : decode cX9_undo 49 = .ok (.iaload, 1) := by decide +kernel
theorem dX9_undo_50 : decode cX9_undo 50 = .ok (.iastore, 1) := by decide +kernel
theorem dX9_undo_51 : decode cX9_undo 51 = .ok (.iinc 1 1, 3) := by decide +kernel
theorem dX9_undo_54 : decode cX9_undo 54 = .ok (.goto (-31), 3) := by decide +kernel
theorem dX9_undo_57 : decode cX9_undo 57 = .ok (.aload_n 0, 1) := by decide +kernel
theorem dX9_undo_58 : decode cX9_undo 58 = .ok (.getfield 43, 3) := by decide +kernel
theorem dX9_undo_61 : decode cX9_undo 61 = .ok (.ireturn, 1) := by decide +kernel
theorem dX9_incident_0 : decode cX9_incident 0 = .ok (.aload_n 0, 1) := by decide +kernel
theorem dX9_incident_1 : decode cX9_incident 1 = .ok (.getfield 46, 3) := by decide +kernel
theorem dX9_incident_4 : decode cX9_incident 4 = .ok (.bipush 20, 2) := by decide +kernel
theorem dX9_incident_6 : decode cX9_incident 6 = .ok (.irem, 1) := by decide +kernel
theorem dX9_incident_7 : decode cX9_incident 7 = .ok (.istore_n 3, 1) := by decide +kernel
theorem dX9_incident_8 : decode cX9_incident 8 = .ok (.aload_n 0, 1) := by decide +kernel
theorem dX9_incident_9 : decode cX9_incident 9 = .ok (.getfield 16, 3) := by decide +kernel
theorem dX9_incident_12 : decode cX9_incident 12 = .ok (.iload_n 3, 1) := by decide +kernel
theorem dX9_incident_13 : decode cX9_incident 13 = .ok (.iload_n 1, 1) := by decide +kernel
theorem dX9_incident_14 : decode cX9_incident 14 = .ok (.iastore, 1) := by decide +kernel
theorem dX9_incident_15 : decode cX9_incident 15 = .ok (.aload_n 0, 1) := by decide +kernel
theorem dX9_incident_16 : decode cX9_incident 16 = .ok (.getfield 19, 3) := by decide +kernel
theorem dX9_incident_19 : decode cX9_incident 19 = .ok (.iload_n 3, 1) := by decide +kernel
theorem dX9_incident_20 : decode cX9_incident 20 = .ok (.iload_n 2, 1) := by decide +kernel
theorem dX9_incident_21 : decode cX9_incident 21 = .ok (.iastore, 1) := by decide +kernel
theorem dX9_incident_22 : decode cX9_incident 22 = .ok (.aload_n 0, 1) := by decide +kernel
theorem dX9_incident_23 : decode cX9_incident 23 = .ok (.getfield 22, 3) := by decide +kernel
theorem dX9_incident_26 : decode cX9_incident 26 = .ok (.iload_n 3, 1) := by decide +kernel
theorem dX9_incident_27 : decode cX9_incident 27 = .ok (.aload_n 0, 1) := by decide +kernel
theorem dX9_incident_28 : decode cX9_incident 28 = .ok (.getfield 7, 3) := by decide +kernel
theorem dX9_incident_31 : decode cX9_incident 31 = .ok (.iconst 2, 1) := by decide +kernel
theorem dX9_incident_32 : decode cX9_incident 32 = .ok (.iaload, 1) := by decide +kernel
theorem dX9_incident_33 : decode cX9_incident 33 = .ok (.iastore, 1) := by decide +kernel
theorem dX9_incident_34 : decode cX9_incident 34 = .ok (.aload_n 0, 1) := by decide +kernel
theorem dX9_incident_35 : decode cX9_incident 35 = .ok (.dup, 1) := by decide +kernel
theorem dX9_incident_36 : decode cX9_incident 36 = .ok (.getfield 46, 3) := by decide +kernel
theorem dX9_incident_39 : decode cX9_incident 39 = .ok (.iconst 1, 1) := by decide +kernel
theorem dX9_incident_40 : decode cX9_incident 40 = .ok (.iadd, 1) := by decide +kernel
theorem dX9_incident_41 : decode cX9_incident 41 = .ok (.putfield 46, 3) := by decide +kernel
theorem dX9_incident_44 : decode cX9_incident 44 = .ok (.return_, 1) := by decide +kernel
theorem dX9_place_0 : decode cX9_place 0 = .ok (.iload_n 1, 1) := by decide +kernel
theorem dX9_place_1 : decode cX9_place 1 = .ok (.ifCond .ge 7, 3) := by decide +kernel
theorem dX9_place_4 : decode cX9_place 4 = .ok (.sipush (-1002), 3) := by decide +kernel
theorem dX9_place_7 : decode cX9_place 7 = .ok (.ireturn, 1) := by decide +kernel
theorem dX9_place_8 : decode cX9_place 8 = .ok (.iload_n 1, 1) := by decide +kernel
theorem dX9_place_9 : decode cX9_place 9 = .ok (.bipush 20, 2) := by decide +kernel
theorem dX9_place_11 : decode cX9_place 11 = .ok (.if_icmp .ge 25, 3) := by decide +kernel
theorem dX9_place_14 : decode cX9_place 14 = .ok (.iload_n 1, 1) := by decide +kernel
theorem dX9_place_15 : decode cX9_place 15 = .ok (.aload_n 0, 1) := by decide +kernel
theorem dX9_place_16 : decode cX9_place 16 = .ok (.getfield 46, 3) := by decide +kernel
theorem dX9_place_19 : decode cX9_place 19 = .ok (.if_icmp .ge 17, 3) := by decide +kernel
theorem dX9_place_22 : decode cX9_place 22 = .ok (.aload_n 0, 1) := by decide +kernel
theorem dX9_place_23 : decode cX9_place 23 = .ok (.getfield 46, 3) := by decide +kernel
theorem dX9_place_26 : decode cX9_place 26 = .ok (.iconst 1, 1) := by decide +kernel
theorem dX9_place_27 : decode cX9_place 27 = .ok (.isub, 1) := by decide +kernel
theorem dX9_place_28 : decode cX9_place 28 = .ok (.iload_n 1, 1) := by decide +kernel
theorem dX9_place_29 : decode cX9_place 29 = .ok (.isub, 1) := by decide +kernel
theorem dX9_place_30 : decode cX9_place 30 = .ok (.bipush 20, 2) := by decide +kernel
theorem dX9_place_32 : decode cX9_place 32 = .ok (.irem, 1) := by decide +kernel
theorem dX9_place_33 : decode cX9_place 33 = .ok (.goto 6, 3) := by decide +kernel
theorem dX9_place_36 : decode cX9_place 36 = .ok (.sipush (-1005), 3) := by decide +kernel
theorem dX9_place_39 : decode cX9_place 39 = .ok (.ireturn, 1) := by decide +kernel
theorem dX9_leastSpace_0 : decode cX9_leastSpace 0 = .ok (.aload_n 0, 1) := by decide +kernel
theorem dX9_leastSpace_1 : decode cX9_leastSpace 1 = .ok (.getfield 7, 3) := by decide +kernel
theorem dX9_leastSpace_4 : decode cX9_leastSpace 4 = .ok (.iload_n 1, 1) := by decide +kernel
theorem dX9_leastSpace_5 : decode cX9_leastSpace 5 = .ok (.bipush 11, 2) := by decide +kernel
theorem dX9_leastSpace_7 : decode cX9_leastSpace 7 = .ok (.iadd, 1) := by decide +kernel
theorem dX9_leastSpace_8 : decode cX9_leastSpace 8 = .ok (.iaload, 1) := by decide +kernel
theorem dX9_leastSpace_9 : decode cX9_leastSpace 9 = .ok (.bipush 10, 2) := by decide +kernel
theorem dX9_leastSpace_11 : decode cX9_leastSpace 11 = .ok (.idiv, 1) := by decide +kernel
theorem dX9_leastSpace_12 : decode cX9_leastSpace 12 = .ok (.ireturn, 1) := by decide +kernel
theorem dX9_head_0 : decode cX9_head 0 = .ok (.bipush 100, 2) := by decide +kernel
theorem dX9_head_2 : decode cX9_head 2 = .ok (.aload_n 0, 1) := by decide +kernel
theorem dX9_head_3 : decode cX9_head 3 = .ok (.getfield 7, 3) := by decide +kernel
theorem dX9_head_6 : decode cX9_head 6 = .ok (.iload_n 1, 1) := by decide +kernel
theorem dX9_head_7 : decode cX9_head 7 = .ok (.bipush 14, 2) := by decide +kernel
theorem dX9_head_9 : decode cX9_head 9 = .ok (.iadd, 1) := by decide +kernel
theorem dX9_head_10 : decode cX9_head 10 = .ok (.iaload, 1) := by decide +kernel
theorem dX9_head_11 : decode cX9_head 11 = .ok (.imul, 1) := by decide +kernel
theorem dX9_head_12 : decode cX9_head 12 = .ok (.aload_n 0, 1) := by decide +kernel
theorem dX9_head_13 : decode cX9_head 13 = .ok (.getfield 7, 3) := by decide +kernel
theorem dX9_head_16 : decode cX9_head 16 = .ok (.iload_n 1, 1) := by decide +kernel
theorem dX9_head_17 : decode cX9_head 17 = .ok (.bipush 11, 2) := by decide +kernel
theorem dX9_head_19 : decode cX9_head 19 = .ok (.iadd, 1) := by decide +kernel
theorem dX9_head_20 : decode cX9_head 20 = .ok (.iaload, 1) := by decide +kernel
theorem dX9_head_21 : decode cX9_head 21 = .ok (.aload_n 0, 1) := by decide +kernel
theorem dX9_head_22 : decode cX9_head 22 = .ok (.getfield 7, 3) := by decide +kernel
theorem dX9_head_25 : decode cX9_head 25 = .ok (.iload_n 1, 1) := by decide +kernel
theorem dX9_head_26 : decode cX9_head 26 = .ok (.bipush 13, 2) := by decide +kernel
theorem dX9_head_28 : decode cX9_head 28 = .ok (.iadd, 1) := by decide +kernel
theorem dX9_head_29 : decode cX9_head 29 = .ok (.iaload, 1) := by decide +kernel
theorem dX9_head_30 : decode cX9_head 30 = .ok (.isub, 1) := by decide +kernel
theorem dX9_head_31 : decode cX9_head 31 = .ok (.idiv, 1) := by decide +kernel
theorem dX9_head_32 : decode cX9_head 32 = .ok (.bipush 100, 2) := by decide +kernel
theorem dX9_head_34 : decode cX9_head 34 = .ok (.isub, 1) := by decide +kernel
theorem dX9_head_35 : decode cX9_head 35 = .ok (.istore_n 2, 1) := by decide +kernel
theorem dX9_head_36 : decode cX9_head 36 = .ok (.iload_n 2, 1) := by decide +kernel
theorem dX9_head_37 : decode cX9_head 37 = .ok (.ifCond .ge 7, 3) := by decide +kernel
theorem dX9_head_40 : decode cX9_head 40 = .ok (.iconst 0, 1) := by decide +kernel
theorem dX9_head_41 : decode cX9_head 41 = .ok (.goto 4, 3) := by decide +kernel
theorem dX9_head_44 : decode cX9_head 44 = .ok (.iload_n 2, 1) := by decide +kernel
theorem dX9_head_45 : decode cX9_head 45 = .ok (.ireturn, 1) := by decide +kernel
theorem dX9_slamsBy_0 : decode cX9_slamsBy 0 = .ok (.aload_n 0, 1) := by decide +kernel
theorem dX9_slamsBy_1 : decode cX9_slamsBy 1 = .ok (.getfield 7, 3) := by decide +kernel
theorem dX9_slamsBy_4 : decode cX9_slamsBy 4 = .ok (.iload_n 1, 1) := by decide +kernel
theorem dX9_slamsBy_5 : decode cX9_slamsBy 5 = .ok (.bipush 6, 2) := by decide +kernel
theorem dX9_slamsBy_7 : decode cX9_slamsBy 7 = .ok (.iadd, 1) := by decide +kernel
theorem dX9_slamsBy_8 : decode cX9_slamsBy 8 = .ok (.iaload, 1) := by decide +kernel
theorem dX9_slamsBy_9 : decode cX9_slamsBy 9 = .ok (.istore_n 2, 1) := by decide +kernel
theorem dX9_slamsBy_10 : decode cX9_slamsBy 10 = .ok (.aload_n 0, 1) := by decide +kernel
theorem dX9_slamsBy_11 : decode cX9_slamsBy 11 = .ok (.getfield 7, 3) := by decide +kernel
theorem dX9_slamsBy_14 : decode cX9_slamsBy 14 = .ok (.iload_n 1, 1) := by decide +kernel
theorem dX9_slamsBy_15 : decode cX9_slamsBy 15 = .ok (.bipush 9, 2) := by decide +kernel
theorem dX9_slamsBy_17 : decode cX9_slamsBy 17 = .ok (.iadd, 1) := by decide +kernel
theorem dX9_slamsBy_18 : decode cX9_slamsBy 18 = .ok (.iaload, 1) := by decide +kernel
theorem dX9_slamsBy_19 : decode cX9_slamsBy 19 = .ok (.ifCond .ne 7, 3) := by decide +kernel
theorem dX9_slamsBy_22 : decode cX9_slamsBy 22 = .ok (.iload_n 2, 1) := by decide +kernel
theorem dX9_slamsBy_23 : decode cX9_slamsBy 23 = .ok (.goto 34, 3) := by decide +kernel
theorem dX9_slamsBy_26 : decode cX9_slamsBy 26 = .ok (.aload_n 0, 1) := by decide +kernel
theorem dX9_slamsBy_27 : decode cX9_slamsBy 27 = .ok (.getfield 7, 3) := by decide +kernel
theorem dX9_slamsBy_30 : decode cX9_slamsBy 30 = .ok (.iload_n 1, 1) := by decide +kernel
theorem dX9_slamsBy_31 : decode cX9_slamsBy 31 = .ok (.bipush 9, 2) := by decide +kernel
theorem dX9_slamsBy_33 : decode cX9_slamsBy 33 = .ok (.iadd, 1) := by decide +kernel
theorem dX9_slamsBy_34 : decode cX9_slamsBy 34 = .ok (.iaload, 1) := by decide +kernel
theorem dX9_slamsBy_35 : decode cX9_slamsBy 35 = .ok (.iconst 1, 1) := by decide +kernel
theorem dX9_slamsBy_36 : decode cX9_slamsBy 36 = .ok (.if_icmp .ne 12, 3) := by decide +kernel
theorem dX9_slamsBy_39 : decode cX9_slamsBy 39 = .ok (.iload_n 2, 1) := by decide +kernel
theorem dX9_slamsBy_40 : decode cX9_slamsBy 40 = .ok (.iload_n 2, 1) := by decide +kernel
theorem dX9_slamsBy_41 : decode cX9_slamsBy 41 = .ok (.imul, 1) := by decide +kernel
theorem dX9_slamsBy_42 : decode cX9_slamsBy 42 = .ok (.bipush 100, 2) := by decide +kernel
theorem dX9_slamsBy_44 : decode cX9_slamsBy 44 = .ok (.idiv, 1) := by decide +kernel
theorem dX9_slamsBy_45 : decode cX9_slamsBy 45 = .ok (.goto 12, 3) := by decide +kernel
theorem dX9_slamsBy_48 : decode cX9_slamsBy 48 = .ok (.aload_n 0, 1) := by decide +kernel
theorem dX9_slamsBy_49 : decode cX9_slamsBy 49 = .ok (.getfield 7, 3) := by decide +kernel
theorem dX9_slamsBy_52 : decode cX9_slamsBy 52 = .ok (.iload_n 1, 1) := by decide +kernel
theorem dX9_slamsBy_53 : decode cX9_slamsBy 53 = .ok (.bipush 8, 2) := by decide +kernel
theorem dX9_slamsBy_55 : decode cX9_slamsBy 55 = .ok (.iadd, 1) := by decide +kernel
theorem dX9_slamsBy_56 : decode cX9_slamsBy 56 = .ok (.iaload, 1) := by decide +kernel
theorem dX9_slamsBy_57 : decode cX9_slamsBy 57 = .ok (.istore_n 3, 1) := by decide +kernel
theorem dX9_slamsBy_58 : decode cX9_slamsBy 58 = .ok (.iload_n 3, 1) := by decide +kernel
theorem dX9_slamsBy_59 : decode cX9_slamsBy 59 = .ok (.aload_n 0, 1) := by decide +kernel
theorem dX9_slamsBy_60 : decode cX9_slamsBy 60 = .ok (.getfield 7, 3) := by decide +kernel
theorem dX9_slamsBy_63 : decode cX9_slamsBy 63 = .ok (.iload_n 1, 1) := by decide +kernel
theorem dX9_slamsBy_64 : decode cX9_slamsBy 64 = .ok (.bipush 10, 2) := by decide +kernel
theorem dX9_slamsBy_66 : decode cX9_slamsBy 66 = .ok (.iadd, 1) := by decide +kernel
theorem dX9_slamsBy_67 : decode cX9_slamsBy 67 = .ok (.iaload, 1) := by decide +kernel
theorem dX9_slamsBy_68 : decode cX9_slamsBy 68 = .ok (.if_icmp .lt 7, 3) := by decide +kernel
theorem dX9_slamsBy_71 : decode cX9_slamsBy 71 = .ok (.iconst 1, 1) := by decide +kernel
theorem dX9_slamsBy_72 : decode cX9_slamsBy 72 = .ok (.goto 4, 3) := by decide +kernel
theorem dX9_slamsBy_75 : decode cX9_slamsBy 75 = .ok (.iconst 0, 1) := by decide +kernel
theorem dX9_slamsBy_76 : decode cX9_slamsBy 76 = .ok (.ireturn, 1) := by decide +kernel
theorem dX9_open_0 : decode cX9_open 0 = .ok (.aload_n 0, 1) := by decide +kernel
theorem dX9_open_1 : decode cX9_open 1 = .ok (.getfield 7, 3) := by decide +kernel
theorem dX9_open_4 : decode cX9_open 4 = .ok (.iload_n 1, 1) := by decide +kernel
theorem dX9_open_5 : decode cX9_open 5 = .ok (.bipush 6, 2) := by decide +kernel
theorem dX9_open_7 : decode cX9_open 7 = .ok (.iadd, 1) := by decide +kernel
theorem dX9_open_8 : decode cX9_open 8 = .ok (.iconst 0, 1) := by decide +kernel
theorem dX9_open_9 : decode cX9_open 9 = .ok (.iastore, 1) := by decide +kernel
theorem dX9_open_10 : decode cX9_open 10 = .ok (.aload_n 0, 1) := by decide +kernel
theorem dX9_open_11 : decode cX9_open 11 = .ok (.getfield 7, 3) := by decide +kernel
theorem dX9_open_14 : decode cX9_open 14 = .ok (.iload_n 1, 1) := by decide +kernel
theorem dX9_open_15 : decode cX9_open 15 = .ok (.bipush 7, 2) := by decide +kernel
theorem dX9_open_17 : decode cX9_open 17 = .ok (.iadd, 1) := by decide +kernel
theorem dX9_open_18 : decode cX9_open 18 = .ok (.iconst 0, 1) := by decide +kernel
theorem dX9_open_19 : decode cX9_open 19 = .ok (.iastore, 1) := by decide +kernel
theorem dX9_open_20 : decode cX9_open 20 = .ok (.aload_n 0, 1) := by decide +kernel
theorem dX9_open_21 : decode cX9_open 21 = .ok (.getfield 7, 3) := by decide +kernel
theorem dX9_open_24 : decode cX9_open 24 = .ok (.iload_n 1, 1) := by decide +kernel
theorem dX9_open_25 : decode cX9_open 25 = .ok (.bipush 8, 2) := by decide +kernel
theorem dX9_open_27 : decode cX9_open 27 = .ok (.iadd, 1) := by decide +kernel
theorem dX9_open_28 : decode cX9_open 28 = .ok (.iconst 0, 1) := by decide +kernel
theorem dX9_open_29 : decode cX9_open 29 = .ok (.iastore, 1) := by decide +kernel
theorem dX9_open_30 : decode cX9_open 30 = .ok (.return_, 1) := by decide +kernel
theorem dX9_addInterval_0 : decode cX9_addInterval 0 = .ok (.bipush 15, 2) := by decide +kernel
theorem dX9_addInterval_2 : decode cX9_addInterval 2 = .ok (.istore_n 2, 1) := by decide +kernel
theorem dX9_addInterval_3 : decode cX9_addInterval 3 = .ok (.iload_n 2, 1) := by decide +kernel
theorem dX9_addInterval_4 : decode cX9_addInterval 4 = .ok (.ifCond .le 33, 3) := by decide +kernel
theorem dX9_addInterval_7 : decode cX9_addInterval 7 = .ok (.aload_n 0, 1) := by decide +kernel
theorem dX9_addInterval_8 : decode cX9_addInterval 8 = .ok (.getfield 7, 3) := by decide +kernel
theorem dX9_addInterval_11 : decode cX9_addInterval 11 = .ok (.iload_n 1, 1) := by decide +kernel
theorem dX9_addInterval_12 : decode cX9_addInterval 12 = .ok (.bipush 24, 2) := by decide +kernel
theorem dX9_addInterval_14 : decode cX9_addInterval 14 = .ok (.iadd, 1) := by decide +kernel
theorem dX9_addInterval_15 : decode cX9_addInterval 15 = .ok (.iload_n 2, 1) := by decide +kernel
theorem dX9_addInterval_16 : decode cX9_addInterval 16 = .ok (.iadd, 1) := by decide +kernel
theorem dX9_addInterval_17 : decode cX9_addInterval 17 = .ok (.aload_n 0, 1) := by decide +kernel
theorem dX9_addInterval_18 : decode cX9_addInterval 18 = .ok (.getfield 7, 3) := by decide +kernel
theorem dX9_addInterval_21 : decode cX9_addInterval 21 = .ok (.iload_n 1, 1) := by decide +kernel
theorem dX9_addInterval_22 : decode cX9_addInterval 22 = .ok (.bipush 24, 2) := by decide +kernel
theorem dX9_addInterval_24 : decode cX9_addInterval 24 = .ok (.iadd, 1) := by decide +kernel
theorem dX9_addInterval_25 : decode cX9_addInterval 25 = .ok (.iload_n 2, 1) := by decide +kernel
theorem dX9_addInterval_26 : decode cX9_addInterval 26 = .ok (.iadd, 1) := by decide +kernel
theorem dX9_addInterval_27 : decode cX9_addInterval 27 = .ok (.iconst 1, 1) := by decide +kernel
theorem dX9_addInterval_28 : decode cX9_addInterval 28 = .ok (.isub, 1) := by decide +kernel
theorem dX9_addInterval_29 : decode cX9_addInterval 29 = .ok (.iaload, 1) := by decide +kernel
theorem dX9_addInterval_30 : decode cX9_addInterval 30 = .ok (.iastore, 1) := by decide +kernel
theorem dX9_addInterval_31 : decode cX9_addInterval 31 = .ok (.iinc 2 (-1), 3) := by decide +kernel
theorem dX9_addInterval_34 : decode cX9_addInterval 34 = .ok (.goto (-31), 3) := by decide +kernel
theorem dX9_addInterval_37 : decode cX9_addInterval 37 = .ok (.aload_n 0, 1) := by decide +kernel
theorem dX9_addInterval_38 : decode cX9_addInterval 38 = .ok (.getfield 7, 3) := by decide +kernel
theorem dX9_addInterval_41 : decode cX9_addInterval 41 = .ok (.iload_n 1, 1) := by decide +kernel
theorem dX9_addInterval_42 : decode cX9_addInterval 42 = .ok (.bipush 24, 2) := by decide +kernel
theorem dX9_addInterval_44 : decode cX9_addInterval 44 = .ok (.iadd, 1) := by decide +kernel
theorem dX9_addInterval_45 : decode cX9_addInterval 45 = .ok (.aload_n 0, 1) := by decide +kernel
theorem dX9_addInterval_46 : decode cX9_addInterval 46 = .ok (.getfield 7, 3) := by decide +kernel
theorem dX9_addInterval_49 : decode cX9_addInterval 49 = .ok (.iconst 2, 1) := by decide +kernel
theorem dX9_addInterval_50 : decode cX9_addInterval 50 = .ok (.iaload, 1) := by decide +kernel
theorem dX9_addInterval_51 : decode cX9_addInterval 51 = .ok (.aload_n 0, 1) := by decide +kernel
theorem dX9_addInterval_52 : decode cX9_addInterval 52 = .ok (.getfield 7, 3) := by decide +kernel
theorem dX9_addInterval_55 : decode cX9_addInterval 55 = .ok (.iload_n 1, 1) := by decide +kernel
theorem dX9_addInterval_56 : decode cX9_addInterval 56 = .ok (.bipush 22, 2) := by decide +kernel
theorem dX9_addInterval_58 : decode cX9_addInterval 58 = .ok (.iadd, 1) := by decide +kernel
theorem dX9_addInterval_59 : decode cX9_addInterval 59 = .ok (.iaload, 1) := by decide +kernel
theorem dX9_addInterval_60 : decode cX9_addInterval 60 = .ok (.isub, 1) := by decide +kernel
theorem dX9_addInterval_61 : decode cX9_addInterval 61 = .ok (.iastore, 1) := by decide +kernel
theorem dX9_addInterval_62 : decode cX9_addInterval 62 = .ok (.aload_n 0, 1) := by decide +kernel
theorem dX9_addInterval_63 : decode cX9_addInterval 63 = .ok (.getfield 7, 3) := by decide +kernel
theorem dX9_addInterval_66 : decode cX9_addInterval 66 = .ok (.iload_n 1, 1) := by decide +kernel
theorem dX9_addInterval_67 : decode cX9_addInterval 67 = .ok (.bipush 22, 2) := by decide +kernel
theorem dX9_addInterval_69 : decode cX9_addInterval 69 = .ok (.iadd, 1) := by decide +kernel
theorem dX9_addInterval_70 : decode cX9_addInterval 70 = .ok (.aload_n 0, 1) := by decide +kernel
theorem dX9_addInterval_71 : decode cX9_addInterval 71 = .ok (.getfield 7, 3) := by decide +kernel
theorem dX9_addInterval_74 : decode cX9_addInterval 74 = .ok (.iconst 2, 1) := by decide +kernel
theorem dX9_addInterval_75 : decode cX9_addInterval 75 = .ok (.iaload, 1) := by decide +kernel
theorem dX9_addInterval_76 : decode cX9_addInterval 76 = .ok (.iastore, 1) := by decide +kernel
theorem dX9_addInterval_77 : decode cX9_addInterval 77 = .ok (.aload_n 0, 1) := by decide +kernel
theorem dX9_addInterval_78 : decode cX9_addInterval 78 = .ok (.getfield 7, 3) := by decide +kernel
theorem dX9_addInterval_81 : decode cX9_addInterval 81 = .ok (.iload_n 1, 1) := by decide +kernel
theorem dX9_addInterval_82 : decode cX9_addInterval 82 = .ok (.bipush 23, 2) := by decide +kernel
theorem dX9_addInterval_84 : decode cX9_addInterval 84 = .ok (.iadd, 1) := by decide +kernel
theorem dX9_addInterval_85 : decode cX9_addInterval 85 = .ok (.dup2, 1) := by decide +kernel
theorem dX9_addInterval_86 : decode cX9_addInterval 86 = .ok (.iaload, 1) := by decide +kernel
theorem dX9_addInterval_87 : decode cX9_addInterval 87 = .ok (.aload_n 0, 1) := by decide +kernel
theorem dX9_addInterval_88 : decode cX9_addInterval 88 = .ok (.getfield 7, 3) := by decide +kernel
theorem dX9_addInterval_91 : decode cX9_addInterval 91 = .ok (.iload_n 1, 1) := by decide +kernel
theorem dX9_addInterval_92 : decode cX9_addInterval 92 = .ok (.bipush 23, 2) := by decide +kernel
theorem dX9_addInterval_94 : decode cX9_addInterval 94 = .ok (.iadd, 1) := by decide +kernel
theorem dX9_addInterval_95 : decode cX9_addInterval 95 = .ok (.iaload, 1) := by decide +kernel
theorem dX9_addInterval_96 : decode cX9_addInterval 96 = .ok (.bipush 16, 2) := by decide +kernel
theorem dX9_addInterval_98 : decode cX9_addInterval 98 = .ok (.if_icmp .ge 7, 3) := by decide +kernel
theorem dX9_addInterval_101 : decode cX9_addInterval 101 = .ok (.iconst 1, 1) := by decide +kernel
theorem dX9_addInterval_102 : decode cX9_addInterval 102 = .ok (.goto 4, 3) := by decide +kernel
theorem dX9_addInterval_105 : decode cX9_addInterval 105 = .ok (.iconst 0, 1) := by decide +kernel
theorem dX9_addInterval_106 : decode cX9_addInterval 106 = .ok (.iadd, 1) := by decide +kernel
theorem dX9_addInterval_107 : decode cX9_addInterval 107 = .ok (.iastore, 1) := by decide +kernel
theorem dX9_addInterval_108 : decode cX9_addInterval 108 = .ok (.return_, 1) := by decide +kernel
theorem dX9_addTrace_0 : decode cX9_addTrace 0 = .ok (.bipush 31, 2) := by decide +kernel
theorem dX9_addTrace_2 : decode cX9_addTrace 2 = .ok (.istore_n 2, 1) := by decide +kernel
theorem dX9_addTrace_3 : decode cX9_addTrace 3 = .ok (.iload_n 2, 1) := by decide +kernel
theorem dX9_addTrace_4 : decode cX9_addTrace 4 = .ok (.ifCond .le 33, 3) := by decide +kernel
theorem dX9_addTrace_7 : decode cX9_addTrace 7 = .ok (.aload_n 0, 1) := by decide +kernel
theorem dX9_addTrace_8 : decode cX9_addTrace 8 = .ok (.getfield 7, 3) := by decide +kernel
theorem dX9_addTrace_11 : decode cX9_addTrace 11 = .ok (.iload_n 1, 1) := by decide +kernel
theorem dX9_addTrace_12 : decode cX9_addTrace 12 = .ok (.bipush 41, 2) := by decide +kernel
theorem dX9_addTrace_14 : decode cX9_addTrace 14 = .ok (.iadd, 1) := by decide +kernel
theorem dX9_addTrace_15 : decode cX9_addTrace 15 = .ok (.iload_n 2, 1) := by decide +kernel
theorem dX9_addTrace_16 : decode cX9_addTrace 16 = .ok (.iadd, 1) := by decide +kernel
theorem dX9_addTrace_17 : decode cX9_addTrace 17 = .ok (.aload_n 0, 1) := by decide +kernel
theorem dX9_addTrace_18 : decode cX9_addTrace 18 = .ok (.getfield 7, 3) := by decide +kernel
theorem dX9_addTrace_21 : decode cX9_addTrace 21 = .ok (.iload_n 1, 1) := by decide +kernel
theorem dX9_addTrace_22 : decode cX9_addTrace 22 = .ok (.bipush 41, 2) := by decide +kernel
theorem dX9_addTrace_24 : decode cX9_addTrace 24 = .ok (.iadd, 1) := by decide +kernel
theorem dX9_addTrace_25 : decode cX9_addTrace 25 = .ok (.iload_n 2, 1) := by decide +kernel
theorem dX9_addTrace_26 : decode cX9_addTrace 26 = .ok (.iadd, 1) := by decide +kernel
theorem dX9_addTrace_27 : decode cX9_addTrace 27 = .ok (.iconst 1, 1) := by decide +kernel
theorem dX9_addTrace_28 : decode cX9_addTrace 28 = .ok (.isub, 1) := by decide +kernel
theorem dX9_addTrace_29 : decode cX9_addTrace 29 = .ok (.iaload, 1) := by decide +kernel
theorem dX9_addTrace_30 : decode cX9_addTrace 30 = .ok (.iastore, 1) := by decide +kernel
theorem dX9_addTrace_31 : decode cX9_addTrace 31 = .ok (.iinc 2 (-1), 3) := by decide +kernel
theorem dX9_addTrace_34 : decode cX9_addTrace 34 = .ok (.goto (-31), 3) := by decide +kernel
theorem dX9_addTrace_37 : decode cX9_addTrace 37 = .ok (.aload_n 0, 1) := by decide +kernel
theorem dX9_addTrace_38 : decode cX9_addTrace 38 = .ok (.getfield 7, 3) := by decide +kernel
theorem dX9_addTrace_41 : decode cX9_addTrace 41 = .ok (.iload_n 1, 1) := by decide +kernel
theorem dX9_addTrace_42 : decode cX9_addTrace 42 = .ok (.bipush 6, 2) := by decide +kernel
theorem dX9_addTrace_44 : decode cX9_addTrace 44 = .ok (.iadd, 1) := by decide +kernel
theorem dX9_addTrace_45 : decode cX9_addTrace 45 = .ok (.iaload, 1) := by decide +kernel
theorem dX9_addTrace_46 : decode cX9_addTrace 46 = .ok (.sipush 256, 3) := by decide +kernel
theorem dX9_addTrace_49 : decode cX9_addTrace 49 = .ok (.irem, 1) := by decide +kernel
theorem dX9_addTrace_50 : decode cX9_addTrace 50 = .ok (.istore_n 2, 1) := by decide +kernel
theorem dX9_addTrace_51 : decode cX9_addTrace 51 = .ok (.aload_n 0, 1) := by decide +kernel
theorem dX9_addTrace_52 : decode cX9_addTrace 52 = .ok (.getfield 7, 3) := by decide +kernel
theorem dX9_addTrace_55 : decode cX9_addTrace 55 = .ok (.iload_n 1, 1) := by decide +kernel
theorem dX9_addTrace_56 : decode cX9_addTrace 56 = .ok (.bipush 41, 2) := by decide +kernel
theorem dX9_addTrace_58 : decode cX9_addTrace 58 = .ok (.iadd, 1) := by decide +kernel
theorem dX9_addTrace_59 : decode cX9_addTrace 59 = .ok (.iload_n 2, 1) := by decide +kernel
theorem dX9_addTrace_60 : decode cX9_addTrace 60 = .ok (.bipush 127, 2) := by decide +kernel
theorem dX9_addTrace_62 : decode cX9_addTrace 62 = .ok (.if_icmp .le 11, 3) := by decide +kernel
theorem dX9_addTrace_65 : decode cX9_addTrace 65 = .ok (.iload_n 2, 1) := by decide +kernel
theorem dX9_addTrace_66 : decode cX9_addTrace 66 = .ok (.sipush 256, 3) := by decide +kernel
theorem dX9_addTrace_69 : decode cX9_addTrace 69 = .ok (.isub, 1) := by decide +kernel
theorem dX9_addTrace_70 : decode cX9_addTrace 70 = .ok (.goto 4, 3) := by decide +kernel
theorem dX9_addTrace_73 : decode cX9_addTrace 73 = .ok (.iload_n 2, 1) := by decide +kernel
theorem dX9_addTrace_74 : decode cX9_addTrace 74 = .ok (.iastore, 1) := by decide +kernel
theorem dX9_addTrace_75 : decode cX9_addTrace 75 = .ok (.aload_n 0, 1) := by decide +kernel
theorem dX9_addTrace_76 : decode cX9_addTrace 76 = .ok (.getfield 7, 3) := by decide +kernel
theorem dX9_addTrace_79 : decode cX9_addTrace 79 = .ok (.iload_n 1, 1) := by decide +kernel
theorem dX9_addTrace_80 : decode cX9_addTrace 80 = .ok (.bipush 40, 2) := by decide +kernel
theorem dX9_addTrace_82 : decode cX9_addTrace 82 = .ok (.iadd, 1) := by decide +kernel
theorem dX9_addTrace_83 : decode cX9_addTrace 83 = .ok (.dup2, 1) := by decide +kernel
theorem dX9_addTrace_84 : decode cX9_addTrace 84 = .ok (.iaload, 1) := by decide +kernel
theorem dX9_addTrace_85 : decode cX9_addTrace 85 = .ok (.aload_n 0, 1) := by decide +kernel
theorem dX9_addTrace_86 : decode cX9_addTrace 86 = .ok (.getfield 7, 3) := by decide +kernel
theorem dX9_addTrace_89 : decode cX9_addTrace 89 = .ok (.iload_n 1, 1) := by decide +kernel
theorem dX9_addTrace_90 : decode cX9_addTrace 90 = .ok (.bipush 40, 2) := by decide +kernel
theorem dX9_addTrace_92 : decode cX9_addTrace 92 = .ok (.iadd, 1) := by decide +kernel
theorem dX9_addTrace_93 : decode cX9_addTrace 93 = .ok (.iaload, 1) := by decide +kernel
theorem dX9_addTrace_94 : decode cX9_addTrace 94 = .ok (.bipush 32, 2) := by decide +kernel
theorem dX9_addTrace_96 : decode cX9_addTrace 96 = .ok (.if_icmp .ge 7, 3) := by decide +kernel
theorem dX9_addTrace_99 : decode cX9_addTrace 99 = .ok (.iconst 1, 1) := by decide +kernel
theorem dX9_addTrace_100 : decode cX9_addTrace 100 = .ok (.goto 4, 3) := by decide +kernel
theorem dX9_addTrace_103 : decode cX9_addTrace 103 = .ok (.iconst 0, 1) := by decide +kernel
theorem dX9_addTrace_104 : decode cX9_addTrace 104 = .ok (.iadd, 1) := by decide +kernel
theorem dX9_addTrace_105 : decode cX9_addTrace 105 = .ok (.iastore, 1) := by decide +kernel
theorem dX9_addTrace_106 : decode cX9_addTrace 106 = .ok (.return_, 1) := by decide +kernel
theorem dX9_slam_0 : decode cX9_slam 0 = .ok (.aload_n 0, 1) := by decide +kernel
theorem dX9_slam_1 : decode cX9_slam 1 = .ok (.iconst 1, 1) := by decide +kernel
theorem dX9_slam_2 : decode cX9_slam 2 = .ok (.putfield 49, 3) := by decide +kernel
theorem dX9_slam_5 : decode cX9_slam 5 = .ok (.aload_n 0, 1) := by decide +kernel
theorem dX9_slam_6 : decode cX9_slam 6 = .ok (.getfield 7, 3) := by decide +kernel
theorem dX9_slam_9 : decode cX9_slam 9 = .ok (.iload_n 1, 1) := by decide +kernel
theorem dX9_slam_10 : decode cX9_slam 10 = .ok (.bipush 7, 2) := by decide +kernel
theorem dX9_slam_12 : decode cX9_slam 12 = .ok (.iadd, 1) := by decide +kernel
theorem dX9_slam_13 : decode cX9_slam 13 = .ok (.iconst 1, 1) := by decide +kernel
theorem dX9_slam_14 : decode cX9_slam 14 = .ok (.iastore, 1) := by decide +kernel
theorem dX9_slam_15 : decode cX9_slam 15 = .ok (.aload_n 0, 1) := by decide +kernel
theorem dX9_slam_16 : decode cX9_slam 16 = .ok (.getfield 7, 3) := by decide +kernel
theorem dX9_slam_19 : decode cX9_slam 19 = .ok (.iload_n 1, 1) := by decide +kernel
theorem dX9_slam_20 : decode cX9_slam 20 = .ok (.bipush 16, 2) := by decide +kernel
theorem dX9_slam_22 : decode cX9_slam 22 = .ok (.iadd, 1) := by decide +kernel
theorem dX9_slam_23 : decode cX9_slam 23 = .ok (.dup2, 1) := by decide +kernel
theorem dX9_slam_24 : decode cX9_slam 24 = .ok (.iaload, 1) := by decide +kernel
theorem dX9_slam_25 : decode cX9_slam 25 = .ok (.iconst 1, 1) := by decide +kernel
theorem dX9_slam_26 : decode cX9_slam 26 = .ok (.iadd, 1) := by decide +kernel
theorem dX9_slam_27 : decode cX9_slam 27 = .ok (.iastore, 1) := by decide +kernel
theorem dX9_slam_28 : decode cX9_slam 28 = .ok (.iload_n 2, 1) := by decide +kernel
theorem dX9_slam_29 : decode cX9_slam 29 = .ok (.ifCond .lt 8, 3) := by decide +kernel
theorem dX9_slam_32 : decode cX9_slam 32 = .ok (.aload_n 0, 1) := by decide +kernel
theorem dX9_slam_33 : decode cX9_slam 33 = .ok (.iload_n 1, 1) := by decide +kernel
theorem dX9_slam_34 : decode cX9_slam 34 = .ok (.invokevirtual 53, 3) := by decide +kernel
theorem dX9_slam_37 : decode cX9_slam 37 = .ok (.aload_n 0, 1) := by decide +kernel
theorem dX9_slam_38 : decode cX9_slam 38 = .ok (.getfield 7, 3) := by decide +kernel
theorem dX9_slam_41 : decode cX9_slam 41 = .ok (.iload_n 1, 1) := by decide +kernel
theorem dX9_slam_42 : decode cX9_slam 42 = .ok (.bipush 14, 2) := by decide +kernel
theorem dX9_slam_44 : decode cX9_slam 44 = .ok (.iadd, 1) := by decide +kernel
theorem dX9_slam_45 : decode cX9_slam 45 = .ok (.iaload, 1) := by decide +kernel
theorem dX9_slam_46 : decode cX9_slam 46 = .ok (.istore_n 3, 1) := by decide +kernel
theorem dX9_slam_47 : decode cX9_slam 47 = .ok (.aload_n 0, 1) := by decide +kernel
theorem dX9_slam_48 : decode cX9_slam 48 = .ok (.iload_n 1, 1) := by decide +kernel
theorem dX9_slam_49 : decode cX9_slam 49 = .ok (.invokevirtual 57, 3) := by decide +kernel
theorem dX9_slam_52 : decode cX9_slam 52 = .ok (.istore 4, 2) := by decide +kernel
theorem dX9_slam_54 : decode cX9_slam 54 = .ok (.aload_n 0, 1) := by decide +kernel
theorem dX9_slam_55 : decode cX9_slam 55 = .ok (.getfield 7, 3) := by decide +kernel
theorem dX9_slam_58 : decode cX9_slam 58 = .ok (.iload_n 1, 1) := by decide +kernel
theorem dX9_slam_59 : decode cX9_slam 59 = .ok (.bipush 12, 2) := by decide +kernel
theorem dX9_slam_61 : decode cX9_slam 61 = .ok (.iadd, 1) := by decide +kernel
theorem dX9_slam_62 : decode cX9_slam 62 = .ok (.iaload, 1) := by decide +kernel
theorem dX9_slam_63 : decode cX9_slam 63 = .ok (.iconst 1, 1) := by decide +kernel
theorem dX9_slam_64 : decode cX9_slam 64 = .ok (.if_icmp .ne 45, 3) := by decide +kernel
theorem dX9_slam_67 : decode cX9_slam 67 = .ok (.aload_n 0, 1) := by decide +kernel
theorem dX9_slam_68 : decode cX9_slam 68 = .ok (.getfield 7, 3) := by decide +kernel
theorem dX9_slam_71 : decode cX9_slam 71 = .ok (.iload_n 1, 1) := by decide +kernel
theorem dX9_slam_72 : decode cX9_slam 72 = .ok (.bipush 14, 2) := by decide +kernel
theorem dX9_slam_74 : decode cX9_slam 74 = .ok (.iadd, 1) := by decide +kernel
theorem dX9_slam_75 : decode cX9_slam 75 = .ok (.iload_n 3, 1) := by decide +kernel
theorem dX9_slam_76 : decode cX9_slam 76 = .ok (.iconst 2, 1) := by decide +kernel
theorem dX9_slam_77 : decode cX9_slam 77 = .ok (.iadd, 1) := by decide +kernel
theorem dX9_slam_78 : decode cX9_slam 78 = .ok (.aload_n 0, 1) := by decide +kernel
theorem dX9_slam_79 : decode cX9_slam 79 = .ok (.getfield 7, 3) := by decide +kernel
theorem dX9_slam_82 : decode cX9_slam 82 = .ok (.iload_n 1, 1) := by decide +kernel
theorem dX9_slam_83 : decode cX9_slam 83 = .ok (.bipush 11, 2) := by decide +kernel
theorem dX9_slam_85 : decode cX9_slam 85 = .ok (.iadd, 1) := by decide +kernel
theorem dX9_slam_86 : decode cX9_slam 86 = .ok (.iaload, 1) := by decide +kernel
theorem dX9_slam_87 : decode cX9_slam 87 = .ok (.if_icmp .le 15, 3) := by decide +kernel
theorem dX9_slam_90 : decode cX9_slam 90 = .ok (.aload_n 0, 1) := by decide +kernel
theorem dX9_slam_91 : decode cX9_slam 91 = .ok (.getfield 7, 3) := by decide +kernel
theorem dX9_slam_94 : decode cX9_slam 94 = .ok (.iload_n 1, 1) := by decide +kernel
theorem dX9_slam_95 : decode cX9_slam 95 = .ok (.bipush 11, 2) := by decide +kernel
theorem dX9_slam_97 : decode cX9_slam 97 = .ok (.iadd, 1) := by decide +kernel
theorem dX9_slam_98 : decode cX9_slam 98 = .ok (.iaload, 1) := by decide +kernel
theorem dX9_slam_99 : decode cX9_slam 99 = .ok (.goto 6, 3) := by decide +kernel
theorem dX9_slam_102 : decode cX9_slam 102 = .ok (.iload_n 3, 1) := by decide +kernel
theorem dX9_slam_103 : decode cX9_slam 103 = .ok (.iconst 2, 1) := by decide +kernel
theorem dX9_slam_104 : decode cX9_slam 104 = .ok (.iadd, 1) := by decide +kernel
theorem dX9_slam_105 : decode cX9_slam 105 = .ok (.iastore, 1) := by decide +kernel
theorem dX9_slam_106 : decode cX9_slam 106 = .ok (.goto 28, 3) := by decide +kernel
theorem dX9_slam_109 : decode cX9_slam 109 = .ok (.aload_n 0, 1) := by decide +kernel
theorem dX9_slam_110 : decode cX9_slam 110 = .ok (.getfield 7, 3) := by decide +kernel
theorem dX9_slam_113 : decode cX9_slam 113 = .ok (.iload_n 1, 1) := by decide +kernel
theorem dX9_slam_114 : decode cX9_slam 114 = .ok (.bipush 14, 2) := by decide +kernel
theorem dX9_slam_116 : decode cX9_slam 116 = .ok (.iadd, 1) := by decide +kernel
theorem dX9_slam_117 : decode cX9_slam 117 = .ok (.iload_n 3, 1) := by decide +kernel
theorem dX9_slam_118 : decode cX9_slam 118 = .ok (.iconst 1, 1) := by decide +kernel
theorem dX9_slam_119 : decode cX9_slam 119 = .ok (.isub, 1) := by decide +kernel
theorem dX9_slam_120 : decode cX9_slam 120 = .ok (.iload 4, 2) := by decide +kernel
theorem dX9_slam_122 : decode cX9_slam 122 = .ok (.if_icmp .ge 8, 3) := by decide +kernel
theorem dX9_slam_125 : decode cX9_slam 125 = .ok (.iload 4, 2) := by decide +kernel
theorem dX9_slam_127 : decode cX9_slam 127 = .ok (.goto 6, 3) := by decide +kernel
theorem dX9_slam_130 : decode cX9_slam 130 = .ok (.iload_n 3, 1) := by decide +kernel
theorem dX9_slam_131 : decode cX9_slam 131 = .ok (.iconst 1, 1) := by decide +kernel
theorem dX9_slam_132 : decode cX9_slam 132 = .ok (.isub, 1) := by decide +kernel
theorem dX9_slam_133 : decode cX9_slam 133 = .ok (.iastore, 1) := by decide +kernel
theorem dX9_slam_134 : decode cX9_slam 134 = .ok (.iload_n 2, 1) := by decide +kernel
theorem dX9_slam_135 : decode cX9_slam 135 = .ok (.ifCond .lt 29, 3) := by decide +kernel
theorem dX9_slam_138 : decode cX9_slam 138 = .ok (.aload_n 0, 1) := by decide +kernel
theorem dX9_slam_139 : decode cX9_slam 139 = .ok (.getfield 7, 3) := by decide +kernel
theorem dX9_slam_142 : decode cX9_slam 142 = .ok (.iload_n 1, 1) := by decide +kernel
theorem dX9_slam_143 : decode cX9_slam 143 = .ok (.bipush 14, 2) := by decide +kernel
theorem dX9_slam_145 : decode cX9_slam 145 = .ok (.iadd, 1) := by decide +kernel
theorem dX9_slam_146 : decode cX9_slam 146 = .ok (.iaload, 1) := by decide +kernel
theorem dX9_slam_147 : decode cX9_slam 147 = .ok (.iload 4, 2) := by decide +kernel
theorem dX9_slam_149 : decode cX9_slam 149 = .ok (.if_icmp .ne 15, 3) := by decide +kernel
theorem dX9_slam_152 : decode cX9_slam 152 = .ok (.iload_n 3, 1) := by decide +kernel
theorem dX9_slam_153 : decode cX9_slam 153 = .ok (.iload 4, 2) := by decide +kernel
theorem dX9_slam_155 : decode cX9_slam 155 = .ok (.if_icmp .le 9, 3) := by decide +kernel
theorem dX9_slam_158 : decode cX9_slam 158 = .ok (.aload_n 0, 1) := by decide +kernel
theorem dX9_slam_159 : decode cX9_slam 159 = .ok (.iconst 4, 1) := by decide +kernel
theorem dX9_slam_160 : decode cX9_slam 160 = .ok (.iload_n 2, 1) := by decide +kernel
theorem dX9_slam_161 : decode cX9_slam 161 = .ok (.invokevirtual 60, 3) := by decide +kernel
theorem dX9_slam_164 : decode cX9_slam 164 = .ok (.return_, 1) := by decide +kernel
theorem dX9_gain_0 : decode cX9_gain 0 = .ok (.aload_n 0, 1) := by decide +kernel
theorem dX9_gain_1 : decode cX9_gain 1 = .ok (.getfield 7, 3) := by decide +kernel
theorem dX9_gain_4 : decode cX9_gain 4 = .ok (.iload_n 1, 1) := by decide +kernel
theorem dX9_gain_5 : decode cX9_gain 5 = .ok (.bipush 17, 2) := by decide +kernel
theorem dX9_gain_7 : decode cX9_gain 7 = .ok (.iadd, 1) := by decide +kernel
theorem dX9_gain_8 : decode cX9_gain 8 = .ok (.dup2, 1) := by decide +kernel
theorem dX9_gain_9 : decode cX9_gain 9 = .ok (.iaload, 1) := by decide +kernel
theorem dX9_gain_10 : decode cX9_gain 10 = .ok (.iload_n 3, 1) := by decide +kernel
theorem dX9_gain_11 : decode cX9_gain 11 = .ok (.iadd, 1) := by decide +kernel
theorem dX9_gain_12 : decode cX9_gain 12 = .ok (.iastore, 1) := by decide +kernel
theorem dX9_gain_13 : decode cX9_gain 13 = .ok (.aload_n 0, 1) := by decide +kernel
theorem dX9_gain_14 : decode cX9_gain 14 = .ok (.getfield 7, 3) := by decide +kernel
theorem dX9_gain_17 : decode cX9_gain 17 = .ok (.iload_n 1, 1) := by decide +kernel
theorem dX9_gain_18 : decode cX9_gain 18 = .ok (.bipush 6, 2) := by decide +kernel
theorem dX9_gain_20 : decode cX9_gain 20 = .ok (.iadd, 1) := by decide +kernel
theorem dX9_gain_21 : decode cX9_gain 21 = .ok (.iaload, 1) := by decide +kernel
theorem dX9_gain_22 : decode cX9_gain 22 = .ok (.istore 4, 2) := by decide +kernel
theorem dX9_gain_24 : decode cX9_gain 24 = .ok (.iload 4, 2) := by decide +kernel
theorem dX9_gain_26 : decode cX9_gain 26 = .ok (.bipush 100, 2) := by decide +kernel
theorem dX9_gain_28 : decode cX9_gain 28 = .ok (.aload_n 0, 1) := by decide +kernel
theorem dX9_gain_29 : decode cX9_gain 29 = .ok (.getfield 7, 3) := by decide +kernel
theorem dX9_gain_32 : decode cX9_gain 32 = .ok (.iload_n 1, 1) := by decide +kernel
theorem dX9_gain_33 : decode cX9_gain 33 = .ok (.iconst 0, 1) := by decide +kernel
theorem dX9_gain_34 : decode cX9_gain 34 = .ok (.iadd, 1) := by decide +kernel
theorem dX9_gain_35 : decode cX9_gain 35 = .ok (.iaload, 1) := by decide +kernel
theorem dX9_gain_36 : decode cX9_gain 36 = .ok (.imul, 1) := by decide +kernel
theorem dX9_gain_37 : decode cX9_gain 37 = .ok (.aload_n 0, 1) := by decide +kernel
theorem dX9_gain_38 : decode cX9_gain 38 = .ok (.getfield 7, 3) := by decide +kernel
theorem dX9_gain_41 : decode cX9_gain 41 = .ok (.iload_n 1, 1) := by decide +kernel
theorem dX9_gain_42 : decode cX9_gain 42 = .ok (.iconst 1, 1) := by decide +kernel
theorem dX9_gain_43 : decode cX9_gain 43 = .ok (.iadd, 1) := by decide +kernel
theorem dX9_gain_44 : decode cX9_gain 44 = .ok (.iaload, 1) := by decide +kernel
theorem dX9_gain_45 : decode cX9_gain 45 = .ok (.idiv, 1) := by decide +kernel
theorem dX9_gain_46 : decode cX9_gain 46 = .ok (.iadd, 1) := by decide +kernel
theorem dX9_gain_47 : decode cX9_gain 47 = .ok (.aload_n 0, 1) := by decide +kernel
theorem dX9_gain_48 : decode cX9_gain 48 = .ok (.getfield 7, 3) := by decide +kernel
theorem dX9_gain_51 : decode cX9_gain 51 = .ok (.iload_n 1, 1) := by decide +kernel
theorem dX9_gain_52 : decode cX9_gain 52 = .ok (.iconst 3, 1) := by decide +kernel
theorem dX9_gain_53 : decode cX9_gain 53 = .ok (.iadd, 1) := by decide +kernel
theorem dX9_gain_54 : decode cX9_gain 54 = .ok (.iaload, 1) := by decide +kernel
theorem dX9_gain_55 : decode cX9_gain 55 = .ok (.iload 4, 2) := by decide +kernel
theorem dX9_gain_57 : decode cX9_gain 57 = .ok (.imul, 1) := by decide +kernel
theorem dX9_gain_58 : decode cX9_gain 58 = .ok (.iload 4, 2) := by decide +kernel
theorem dX9_gain_60 : decode cX9_gain 60 = .ok (.imul, 1) := by decide +kernel
theorem dX9_gain_61 : decode cX9_gain 61 = .ok (.ldc 64, 2) := by decide +kernel
theorem dX9_gain_63 : decode cX9_gain 63 = .ok (.idiv, 1) := by decide +kernel
theorem dX9_gain_64 : decode cX9_gain 64 = .ok (.isub, 1) := by decide +kernel
theorem dX9_gain_65 : decode cX9_gain 65 = .ok (.istore 5, 2) := by decide +kernel
theorem dX9_gain_67 : decode cX9_gain 67 = .ok (.aload_n 0, 1) := by decide +kernel
theorem dX9_gain_68 : decode cX9_gain 68 = .ok (.getfield 7, 3) := by decide +kernel
theorem dX9_gain_71 : decode cX9_gain 71 = .ok (.iload_n 1, 1) := by decide +kernel
theorem dX9_gain_72 : decode cX9_gain 72 = .ok (.bipush 6, 2) := by decide +kernel
theorem dX9_gain_74 : decode cX9_gain 74 = .ok (.iadd, 1) := by decide +kernel
theorem dX9_gain_75 : decode cX9_gain 75 = .ok (.iload 5, 2) := by decide +kernel
theorem dX9_gain_77 : decode cX9_gain 77 = .ok (.ifCond .ge 7, 3) := by decide +kernel
theorem dX9_gain_80 : decode cX9_gain 80 = .ok (.iconst 0, 1) := by decide +kernel
theorem dX9_gain_81 : decode cX9_gain 81 = .ok (.goto 19, 3) := by decide +kernel
theorem dX9_gain_84 : decode cX9_gain 84 = .ok (.iload 5, 2) := by decide +kernel
theorem dX9_gain_86 : decode cX9_gain 86 = .ok (.sipush 2000, 3) := by decide +kernel
theorem dX9_gain_89 : decode cX9_gain 89 = .ok (.if_icmp .le 9, 3) := by decide +kernel
theorem dX9_gain_92 : decode cX9_gain 92 = .ok (.sipush 2000, 3) := by decide +kernel
theorem dX9_gain_95 : decode cX9_gain 95 = .ok (.goto 5, 3) := by decide +kernel
theorem dX9_gain_98 : decode cX9_gain 98 = .ok (.iload 5, 2) := by decide +kernel
theorem dX9_gain_100 : decode cX9_gain 100 = .ok (.iastore, 1) := by decide +kernel
theorem dX9_gain_101 : decode cX9_gain 101 = .ok (.aload_n 0, 1) := by decide +kernel
theorem dX9_gain_102 : decode cX9_gain 102 = .ok (.getfield 7, 3) := by decide +kernel
theorem dX9_gain_105 : decode cX9_gain 105 = .ok (.iload_n 1, 1) := by decide +kernel
theorem dX9_gain_106 : decode cX9_gain 106 = .ok (.bipush 8, 2) := by decide +kernel
theorem dX9_gain_108 : decode cX9_gain 108 = .ok (.iadd, 1) := by decide +kernel
theorem dX9_gain_109 : decode cX9_gain 109 = .ok (.dup2, 1) := by decide +kernel
theorem dX9_gain_110 : decode cX9_gain 110 = .ok (.iaload, 1) := by decide +kernel
theorem dX9_gain_111 : decode cX9_gain 111 = .ok (.iconst 1, 1) := by decide +kernel
theorem dX9_gain_112 : decode cX9_gain 112 = .ok (.iadd, 1) := by decide +kernel
theorem dX9_gain_113 : decode cX9_gain 113 = .ok (.iastore, 1) := by decide +kernel
theorem dX9_gain_114 : decode cX9_gain 114 = .ok (.aload_n 0, 1) := by decide +kernel
theorem dX9_gain_115 : decode cX9_gain 115 = .ok (.iload_n 1, 1) := by decide +kernel
theorem dX9_gain_116 : decode cX9_gain 116 = .ok (.invokevirtual 65, 3) := by decide +kernel
theorem dX9_gain_119 : decode cX9_gain 119 = .ok (.ifCond .eq 9, 3) := by decide +kernel
theorem dX9_gain_122 : decode cX9_gain 122 = .ok (.aload_n 0, 1) := by decide +kernel
theorem dX9_gain_123 : decode cX9_gain 123 = .ok (.iload_n 1, 1) := by decide +kernel
theorem dX9_gain_124 : decode cX9_gain 124 = .ok (.iload_n 2, 1) := by decide +kernel
theorem dX9_gain_125 : decode cX9_gain 125 = .ok (.invokevirtual 69, 3) := by decide +kernel
theorem dX9_gain_128 : decode cX9_gain 128 = .ok (.return_, 1) := by decide +kernel
theorem dX9_push_0 : decode cX9_push 0 = .ok (.aload_n 0, 1) := by decide +kernel
theorem dX9_push_1 : decode cX9_push 1 = .ok (.getfield 7, 3) := by decide +kernel
theorem dX9_push_4 : decode cX9_push 4 = .ok (.iload_n 1, 1) := by decide +kernel
theorem dX9_push_5 : decode cX9_push 5 = .ok (.bipush 11, 2) := by decide +kernel
theorem dX9_push_7 : decode cX9_push 7 = .ok (.iadd, 1) := by decide +kernel
theorem dX9_push_8 : decode cX9_push 8 = .ok (.iaload, 1) := by decide +kernel
theorem dX9_push_9 : decode cX9_push 9 = .ok (.aload_n 0, 1) := by decide +kernel
theorem dX9_push_10 : decode cX9_push 10 = .ok (.iload_n 1, 1) := by decide +kernel
theorem dX9_push_11 : decode cX9_push 11 = .ok (.invokevirtual 57, 3) := by decide +kernel
theorem dX9_push_14 : decode cX9_push 14 = .ok (.isub, 1) := by decide +kernel
theorem dX9_push_15 : decode cX9_push 15 = .ok (.aload_n 0, 1) := by decide +kernel
theorem dX9_push_16 : decode cX9_push 16 = .ok (.getfield 7, 3) := by decide +kernel
theorem dX9_push_19 : decode cX9_push 19 = .ok (.iload_n 1, 1) := by decide +kernel
theorem dX9_push_20 : decode cX9_push 20 = .ok (.bipush 13, 2) := by decide +kernel
theorem dX9_push_22 : decode cX9_push 22 = .ok (.iadd, 1) := by decide +kernel
theorem dX9_push_23 : decode cX9_push 23 = .ok (.iaload, 1) := by decide +kernel
theorem dX9_push_24 : decode cX9_push 24 = .ok (.isub, 1) := by decide +kernel
theorem dX9_push_25 : decode cX9_push 25 = .ok (.istore 4, 2) := by decide +kernel
theorem dX9_push_27 : decode cX9_push 27 = .ok (.iload_n 3, 1) := by decide +kernel
theorem dX9_push_28 : decode cX9_push 28 = .ok (.iload 4, 2) := by decide +kernel
theorem dX9_push_30 : decode cX9_push 30 = .ok (.if_icmp .ge 7, 3) := by decide +kernel
theorem dX9_push_33 : decode cX9_push 33 = .ok (.iload_n 3, 1) := by decide +kernel
theorem dX9_push_34 : decode cX9_push 34 = .ok (.goto 5, 3) := by decide +kernel
theorem dX9_push_37 : decode cX9_push 37 = .ok (.iload 4, 2) := by decide +kernel
theorem dX9_push_39 : decode cX9_push 39 = .ok (.istore 5, 2) := by decide +kernel
theorem dX9_push_41 : decode cX9_push 41 = .ok (.aload_n 0, 1) := by decide +kernel
theorem dX9_push_42 : decode cX9_push 42 = .ok (.getfield 7, 3) := by decide +kernel
theorem dX9_push_45 : decode cX9_push 45 = .ok (.iload_n 1, 1) := by decide +kernel
theorem dX9_push_46 : decode cX9_push 46 = .ok (.bipush 13, 2) := by decide +kernel
theorem dX9_push_48 : decode cX9_push 48 = .ok (.iadd, 1) := by decide +kernel
theorem dX9_push_49 : decode cX9_push 49 = .ok (.dup2, 1) := by decide +kernel
theorem dX9_push_50 : decode cX9_push 50 = .ok (.iaload, 1) := by decide +kernel
theorem dX9_push_51 : decode cX9_push 51 = .ok (.iload 5, 2) := by decide +kernel
theorem dX9_push_53 : decode cX9_push 53 = .ok (.iadd, 1) := by decide +kernel
theorem dX9_push_54 : decode cX9_push 54 = .ok (.iastore, 1) := by decide +kernel
theorem dX9_push_55 : decode cX9_push 55 = .ok (.aload_n 0, 1) := by decide +kernel
theorem dX9_push_56 : decode cX9_push 56 = .ok (.getfield 7, 3) := by decide +kernel
theorem dX9_push_59 : decode cX9_push 59 = .ok (.iload_n 1, 1) := by decide +kernel
theorem dX9_push_60 : decode cX9_push 60 = .ok (.bipush 18, 2) := by decide +kernel
theorem dX9_push_62 : decode cX9_push 62 = .ok (.iadd, 1) := by decide +kernel
theorem dX9_push_63 : decode cX9_push 63 = .ok (.dup2, 1) := by decide +kernel
theorem dX9_push_64 : decode cX9_push 64 = .ok (.iaload, 1) := by decide +kernel
theorem dX9_push_65 : decode cX9_push 65 = .ok (.iload_n 3, 1) := by decide +kernel
theorem dX9_push_66 : decode cX9_push 66 = .ok (.iload 5, 2) := by decide +kernel
theorem dX9_push_68 : decode cX9_push 68 = .ok (.isub, 1) := by decide +kernel
theorem dX9_push_69 : decode cX9_push 69 = .ok (.iadd, 1) := by decide +kernel
theorem dX9_push_70 : decode cX9_push 70 = .ok (.iastore, 1) := by decide +kernel
theorem dX9_push_71 : decode cX9_push 71 = .ok (.iload_n 2, 1) := by decide +kernel
theorem dX9_push_72 : decode cX9_push 72 = .ok (.ifCond .lt 15, 3) := by decide +kernel
theorem dX9_push_75 : decode cX9_push 75 = .ok (.iload_n 3, 1) := by decide +kernel
theorem dX9_push_76 : decode cX9_push 76 = .ok (.iload 5, 2) := by decide +kernel
theorem dX9_push_78 : decode cX9_push 78 = .ok (.if_icmp .le 9, 3) := by decide +kernel
theorem dX9_push_81 : decode cX9_push 81 = .ok (.aload_n 0, 1) := by decide +kernel
theorem dX9_push_82 : decode cX9_push 82 = .ok (.iconst 2, 1) := by decide +kernel
theorem dX9_push_83 : decode cX9_push 83 = .ok (.iload_n 2, 1) := by decide +kernel
theorem dX9_push_84 : decode cX9_push 84 = .ok (.invokevirtual 60, 3) := by decide +kernel
theorem dX9_push_87 : decode cX9_push 87 = .ok (.aload_n 0, 1) := by decide +kernel
theorem dX9_push_88 : decode cX9_push 88 = .ok (.iload_n 1, 1) := by decide +kernel
theorem dX9_push_89 : decode cX9_push 89 = .ok (.invokevirtual 72, 3) := by decide +kernel
theorem dX9_push_92 : decode cX9_push 92 = .ok (.aload_n 0, 1) := by decide +kernel
theorem dX9_push_93 : decode cX9_push 93 = .ok (.getfield 7, 3) := by decide +kernel
theorem dX9_push_96 : decode cX9_push 96 = .ok (.iload_n 1, 1) := by decide +kernel
theorem dX9_push_97 : decode cX9_push 97 = .ok (.iconst 0, 1) := by decide +kernel
theorem dX9_push_98 : decode cX9_push 98 = .ok (.iadd, 1) := by decide +kernel
theorem dX9_push_99 : decode cX9_push 99 = .ok (.iaload, 1) := by decide +kernel
theorem dX9_push_100 : decode cX9_push 100 = .ok (.isub, 1) := by decide +kernel
theorem dX9_push_101 : decode cX9_push 101 = .ok (.istore 6, 2) := by decide +kernel
theorem dX9_push_103 : decode cX9_push 103 = .ok (.iload 6, 2) := by decide +kernel
theorem dX9_push_105 : decode cX9_push 105 = .ok (.ifCond .ge 7, 3) := by decide +kernel
theorem dX9_push_108 : decode cX9_push 108 = .ok (.iconst 0, 1) := by decide +kernel
theorem dX9_push_109 : decode cX9_push 109 = .ok (.goto 5, 3) := by decide +kernel
theorem dX9_push_112 : decode cX9_push 112 = .ok (.iload 6, 2) := by decide +kernel
theorem dX9_push_114 : decode cX9_push 114 = .ok (.istore 7, 2) := by decide +kernel
theorem dX9_push_116 : decode cX9_push 116 = .ok (.aload_n 0, 1) := by decide +kernel
theorem dX9_push_117 : decode cX9_push 117 = .ok (.getfield 7, 3) := by decide +kernel
theorem dX9_push_120 : decode cX9_push 120 = .ok (.iload_n 1, 1) := by decide +kernel
theorem dX9_push_121 : decode cX9_push 121 = .ok (.bipush 6, 2) := by decide +kernel
theorem dX9_push_123 : decode cX9_push 123 = .ok (.iadd, 1) := by decide +kernel
theorem dX9_push_124 : decode cX9_push 124 = .ok (.dup2, 1) := by decide +kernel
theorem dX9_push_125 : decode cX9_push 125 = .ok (.iaload, 1) := by decide +kernel
theorem dX9_push_126 : decode cX9_push 126 = .ok (.iconst 1, 1) := by decide +kernel
theorem dX9_push_127 : decode cX9_push 127 = .ok (.bipush 100, 2) := by decide +kernel
theorem dX9_push_129 : decode cX9_push 129 = .ok (.iload 7, 2) := by decide +kernel
theorem dX9_push_131 : decode cX9_push 131 = .ok (.imul, 1) := by decide +kernel
theorem dX9_push_132 : decode cX9_push 132 = .ok (.aload_n 0, 1) := by decide +kernel
theorem dX9_push_133 : decode cX9_push 133 = .ok (.getfield 7, 3) := by decide +kernel
theorem dX9_push_136 : decode cX9_push 136 = .ok (.iload_n 1, 1) := by decide +kernel
theorem dX9_push_137 : decode cX9_push 137 = .ok (.iconst 1, 1) := by decide +kernel
theorem dX9_push_138 : decode cX9_push 138 = .ok (.iadd, 1) := by decide +kernel
theorem dX9_push_139 : decode cX9_push 139 = .ok (.iaload, 1) := by decide +kernel
theorem dX9_push_140 : decode cX9_push 140 = .ok (.idiv, 1) := by decide +kernel
theorem dX9_push_141 : decode cX9_push 141 = .ok (.iadd, 1) := by decide +kernel
theorem dX9_push_142 : decode cX9_push 142 = .ok (.isub, 1) := by decide +kernel
theorem dX9_push_143 : decode cX9_push 143 = .ok (.iastore, 1) := by decide +kernel
theorem dX9_push_144 : decode cX9_push 144 = .ok (.aload_n 0, 1) := by decide +kernel
theorem dX9_push_145 : decode cX9_push 145 = .ok (.getfield 7, 3) := by decide +kernel
theorem dX9_push_148 : decode cX9_push 148 = .ok (.iload_n 1, 1) := by decide +kernel
theorem dX9_push_149 : decode cX9_push 149 = .ok (.bipush 6, 2) := by decide +kernel
theorem dX9_push_151 : decode cX9_push 151 = .ok (.iadd, 1) := by decide +kernel
theorem dX9_push_152 : decode cX9_push 152 = .ok (.iaload, 1) := by decide +kernel
theorem dX9_push_153 : decode cX9_push 153 = .ok (.iconst 1, 1) := by decide +kernel
theorem dX9_push_154 : decode cX9_push 154 = .ok (.if_icmp .ge 8, 3) := by decide +kernel
theorem dX9_push_157 : decode cX9_push 157 = .ok (.aload_n 0, 1) := by decide +kernel
theorem dX9_push_158 : decode cX9_push 158 = .ok (.iload_n 1, 1) := by decide +kernel
theorem dX9_push_159 : decode cX9_push 159 = .ok (.invokevirtual 75, 3) := by decide +kernel
theorem dX9_push_162 : decode cX9_push 162 = .ok (.return_, 1) := by decide +kernel
theorem dX9_deliver_0 : decode cX9_deliver 0 = .ok (.aload_n 0, 1) := by decide +kernel
theorem dX9_deliver_1 : decode cX9_deliver 1 = .ok (.iload_n 1, 1) := by decide +kernel
theorem dX9_deliver_2 : decode cX9_deliver 2 = .ok (.invokevirtual 72, 3) := by decide +kernel
theorem dX9_deliver_5 : decode cX9_deliver 5 = .ok (.aload_n 0, 1) := by decide +kernel
theorem dX9_deliver_6 : decode cX9_deliver 6 = .ok (.getfield 7, 3) := by decide +kernel
theorem dX9_deliver_9 : decode cX9_deliver 9 = .ok (.iload_n 1, 1) := by decide +kernel
theorem dX9_deliver_10 : decode cX9_deliver 10 = .ok (.iconst 4, 1) := by decide +kernel
theorem dX9_deliver_11 : decode cX9_deliver 11 = .ok (.iadd, 1) := by decide +kernel
theorem dX9_deliver_12 : decode cX9_deliver 12 = .ok (.iaload, 1) := by decide +kernel
theorem dX9_deliver_13 : decode cX9_deliver 13 = .ok (.isub, 1) := by decide +kernel
theorem dX9_deliver_14 : decode cX9_deliver 14 = .ok (.istore_n 3, 1) := by decide +kernel
theorem dX9_deliver_15 : decode cX9_deliver 15 = .ok (.iload_n 3, 1) := by decide +kernel
theorem dX9_deliver_16 : decode cX9_deliver 16 = .ok (.ifCond .gt 4, 3) := by decide +kernel
theorem dX9_deliver_19 : decode cX9_deliver 19 = .ok (.return_, 1) := by decide +kernel
theorem dX9_deliver_20 : decode cX9_deliver 20 = .ok (.iconst 1, 1) := by decide +kernel
theorem dX9_deliver_21 : decode cX9_deliver 21 = .ok (.iload_n 3, 1) := by decide +kernel
theorem dX9_deliver_22 : decode cX9_deliver 22 = .ok (.bipush 10, 2) := by decide +kernel
theorem dX9_deliver_24 : decode cX9_deliver 24 = .ok (.idiv, 1) := by decide +kernel
theorem dX9_deliver_25 : decode cX9_deliver 25 = .ok (.iadd, 1) := by decide +kernel
theorem dX9_deliver_26 : decode cX9_deliver 26 = .ok (.istore 4, 2) := by decide +kernel
theorem dX9_deliver_28 : decode cX9_deliver 28 = .ok (.aload_n 0, 1) := by decide +kernel
theorem dX9_deliver_29 : decode cX9_deliver 29 = .ok (.getfield 7, 3) := by decide +kernel
theorem dX9_deliver_32 : decode cX9_deliver 32 = .ok (.iload_n 1, 1) := by decide +kernel
theorem dX9_deliver_33 : decode cX9_deliver 33 = .ok (.bipush 13, 2) := by decide +kernel
theorem dX9_deliver_35 : decode cX9_deliver 35 = .ok (.iadd, 1) := by decide +kernel
theorem dX9_deliver_36 : decode cX9_deliver 36 = .ok (.iaload, 1) := by decide +kernel
theorem dX9_deliver_37 : decode cX9_deliver 37 = .ok (.iload 4, 2) := by decide +kernel
theorem dX9_deliver_39 : decode cX9_deliver 39 = .ok (.if_icmp .ge 15, 3) := by decide +kernel
theorem dX9_deliver_42 : decode cX9_deliver 42 = .ok (.aload_n 0, 1) := by decide +kernel
theorem dX9_deliver_43 : decode cX9_deliver 43 = .ok (.getfield 7, 3) := by decide +kernel
theorem dX9_deliver_46 : decode cX9_deliver 46 = .ok (.iload_n 1, 1) := by decide +kernel
theorem dX9_deliver_47 : decode cX9_deliver 47 = .ok (.bipush 13, 2) := by decide +kernel
theorem dX9_deliver_49 : decode cX9_deliver 49 = .ok (.iadd, 1) := by decide +kernel
theorem dX9_deliver_50 : decode cX9_deliver 50 = .ok (.iaload, 1) := by decide +kernel
theorem dX9_deliver_51 : decode cX9_deliver 51 = .ok (.goto 5, 3) := by decide +kernel
theorem dX9_deliver_54 : decode cX9_deliver 54 = .ok (.iload 4, 2) := by decide +kernel
theorem dX9_deliver_56 : decode cX9_deliver 56 = .ok (.istore 5, 2) := by decide +kernel
theorem dX9_deliver_58 : decode cX9_deliver 58 = .ok (.aload_n 0, 1) := by decide +kernel
theorem dX9_deliver_59 : decode cX9_deliver 59 = .ok (.getfield 7, 3) := by decide +kernel
theorem dX9_deliver_62 : decode cX9_deliver 62 = .ok (.iload_n 1, 1) := by decide +kernel
theorem dX9_deliver_63 : decode cX9_deliver 63 = .ok (.bipush 13, 2) := by decide +kernel
theorem dX9_deliver_65 : decode cX9_deliver 65 = .ok (.iadd, 1) := by decide +kernel
theorem dX9_deliver_66 : decode cX9_deliver 66 = .ok (.dup2, 1) := by decide +kernel
theorem dX9_deliver_67 : decode cX9_deliver 67 = .ok (.iaload, 1) := by decide +kernel
theorem dX9_deliver_68 : decode cX9_deliver 68 = .ok (.iload 5, 2) := by decide +kernel
theorem dX9_deliver_70 : decode cX9_deliver 70 = .ok (.isub, 1) := by decide +kernel
theorem dX9_deliver_71 : decode cX9_deliver 71 = .ok (.iastore, 1) := by decide +kernel
theorem dX9_deliver_72 : decode cX9_deliver 72 = .ok (.aload_n 0, 1) := by decide +kernel
theorem dX9_deliver_73 : decode cX9_deliver 73 = .ok (.getfield 7, 3) := by decide +kernel
theorem dX9_deliver_76 : decode cX9_deliver 76 = .ok (.iload_n 1, 1) := by decide +kernel
theorem dX9_deliver_77 : decode cX9_deliver 77 = .ok (.bipush 19, 2) := by decide +kernel
theorem dX9_deliver_79 : decode cX9_deliver 79 = .ok (.iadd, 1) := by decide +kernel
theorem dX9_deliver_80 : decode cX9_deliver 80 = .ok (.dup2, 1) := by decide +kernel
theorem dX9_deliver_81 : decode cX9_deliver 81 = .ok (.iaload, 1) := by decide +kernel
theorem dX9_deliver_82 : decode cX9_deliver 82 = .ok (.iload 5, 2) := by decide +kernel
theorem dX9_deliver_84 : decode cX9_deliver 84 = .ok (.iadd, 1) := by decide +kernel
theorem dX9_deliver_85 : decode cX9_deliver 85 = .ok (.iastore, 1) := by decide +kernel
theorem dX9_deliver_86 : decode cX9_deliver 86 = .ok (.aload_n 0, 1) := by decide +kernel
theorem dX9_deliver_87 : decode cX9_deliver 87 = .ok (.getfield 7, 3) := by decide +kernel
theorem dX9_deliver_90 : decode cX9_deliver 90 = .ok (.iload_n 1, 1) := by decide +kernel
theorem dX9_deliver_91 : decode cX9_deliver 91 = .ok (.bipush 15, 2) := by decide +kernel
theorem dX9_deliver_93 : decode cX9_deliver 93 = .ok (.iadd, 1) := by decide +kernel
theorem dX9_deliver_94 : decode cX9_deliver 94 = .ok (.dup2, 1) := by decide +kernel
theorem dX9_deliver_95 : decode cX9_deliver 95 = .ok (.iaload, 1) := by decide +kernel
theorem dX9_deliver_96 : decode cX9_deliver 96 = .ok (.iload 5, 2) := by decide +kernel
theorem dX9_deliver_98 : decode cX9_deliver 98 = .ok (.iadd, 1) := by decide +kernel
theorem dX9_deliver_99 : decode cX9_deliver 99 = .ok (.iastore, 1) := by decide +kernel
theorem dX9_deliver_100 : decode cX9_deliver 100 = .ok (.aload_n 0, 1) := by decide +kernel
theorem dX9_deliver_101 : decode cX9_deliver 101 = .ok (.dup, 1) := by decide +kernel
theorem dX9_deliver_102 : decode cX9_deliver 102 = .ok (.getfield 78, 3) := by decide +kernel
theorem dX9_deliver_105 : decode cX9_deliver 105 = .ok (.iload 5, 2) := by decide +kernel
theorem dX9_deliver_107 : decode cX9_deliver 107 = .ok (.iadd, 1) := by decide +kernel
theorem dX9_deliver_108 : decode cX9_deliver 108 = .ok (.putfield 78, 3) := by decide +kernel
theorem dX9_deliver_111 : decode cX9_deliver 111 = .ok (.aload_n 0, 1) := by decide +kernel
theorem dX9_deliver_112 : decode cX9_deliver 112 = .ok (.getfield 7, 3) := by decide +kernel
theorem dX9_deliver_115 : decode cX9_deliver 115 = .ok (.iload_n 1, 1) := by decide +kernel
theorem dX9_deliver_116 : decode cX9_deliver 116 = .ok (.bipush 15, 2) := by decide +kernel
theorem dX9_deliver_118 : decode cX9_deliver 118 = .ok (.iadd, 1) := by decide +kernel
theorem dX9_deliver_119 : decode cX9_deliver 119 = .ok (.iaload, 1) := by decide +kernel
theorem dX9_deliver_120 : decode cX9_deliver 120 = .ok (.sipush 30000, 3) := by decide +kernel
theorem dX9_deliver_123 : decode cX9_deliver 123 = .ok (.if_icmp .le 50, 3) := by decide +kernel
theorem dX9_deliver_126 : decode cX9_deliver 126 = .ok (.aload_n 0, 1) := by decide +kernel
theorem dX9_deliver_127 : decode cX9_deliver 127 = .ok (.getfield 7, 3) := by decide +kernel
theorem dX9_deliver_130 : decode cX9_deliver 130 = .ok (.iload_n 1, 1) := by decide +kernel
theorem dX9_deliver_131 : decode cX9_deliver 131 = .ok (.bipush 20, 2) := by decide +kernel
theorem dX9_deliver_133 : decode cX9_deliver 133 = .ok (.iadd, 1) := by decide +kernel
theorem dX9_deliver_134 : decode cX9_deliver 134 = .ok (.dup2, 1) := by decide +kernel
theorem dX9_deliver_135 : decode cX9_deliver 135 = .ok (.iaload, 1) := by decide +kernel
theorem dX9_deliver_136 : decode cX9_deliver 136 = .ok (.aload_n 0, 1) := by decide +kernel
theorem dX9_deliver_137 : decode cX9_deliver 137 = .ok (.getfield 7, 3) := by decide +kernel
theorem dX9_deliver_140 : decode cX9_deliver 140 = .ok (.iload_n 1, 1) := by decide +kernel
theorem dX9_deliver_141 : decode cX9_deliver 141 = .ok (.bipush 15, 2) := by decide +kernel
theorem dX9_deliver_143 : decode cX9_deliver 143 = .ok (.iadd, 1) := by decide +kernel
theorem dX9_deliver_144 : decode cX9_deliver 144 = .ok (.iaload, 1) := by decide +kernel
theorem dX9_deliver_145 : decode cX9_deliver 145 = .ok (.sipush 30000, 3) := by decide +kernel
theorem dX9_deliver_148 : decode cX9_deliver 148 = .ok (.isub, 1) := by decide +kernel
theorem dX9_deliver_149 : decode cX9_deliver 149 = .ok (.iadd, 1) := by decide +kernel
theorem dX9_deliver_150 : decode cX9_deliver 150 = .ok (.iastore, 1) := by decide +kernel
theorem dX9_deliver_151 : decode cX9_deliver 151 = .ok (.aload_n 0, 1) := by decide +kernel
theorem dX9_deliver_152 : decode cX9_deliver 152 = .ok (.getfield 7, 3) := by decide +kernel
theorem dX9_deliver_155 : decode cX9_deliver 155 = .ok (.iload_n 1, 1) := by decide +kernel
theorem dX9_deliver_156 : decode cX9_deliver 156 = .ok (.bipush 15, 2) := by decide +kernel
theorem dX9_deliver_158 : decode cX9_deliver 158 = .ok (.iadd, 1) := by decide +kernel
theorem dX9_deliver_159 : decode cX9_deliver 159 = .ok (.sipush 30000, 3) := by decide +kernel
theorem dX9_deliver_162 : decode cX9_deliver 162 = .ok (.iastore, 1) := by decide +kernel
theorem dX9_deliver_163 : decode cX9_deliver 163 = .ok (.iload_n 2, 1) := by decide +kernel
theorem dX9_deliver_164 : decode cX9_deliver 164 = .ok (.ifCond .lt 9, 3) := by decide +kernel
theorem dX9_deliver_167 : decode cX9_deliver 167 = .ok (.aload_n 0, 1) := by decide +kernel
theorem dX9_deliver_168 : decode cX9_deliver 168 = .ok (.iconst 3, 1) := by decide +kernel
theorem dX9_deliver_169 : decode cX9_deliver 169 = .ok (.iload_n 2, 1) := by decide +kernel
theorem dX9_deliver_170 : decode cX9_deliver 170 = .ok (.invokevirtual 60, 3) := by decide +kernel
theorem dX9_deliver_173 : decode cX9_deliver 173 = .ok (.return_, 1) := by decide +kernel
theorem dX9_tick_0 : decode cX9_tick 0 = .ok (.aload_n 0, 1) := by decide +kernel
theorem dX9_tick_1 : decode cX9_tick 1 = .ok (.getfield 7, 3) := by decide +kernel
theorem dX9_tick_4 : decode cX9_tick 4 = .ok (.iload_n 1, 1) := by decide +kernel
theorem dX9_tick_5 : decode cX9_tick 5 = .ok (.iconst 2, 1) := by decide +kernel
theorem dX9_tick_6 : decode cX9_tick 6 = .ok (.iadd, 1) := by decide +kernel
theorem dX9_tick_7 : decode cX9_tick 7 = .ok (.iaload, 1) := by decide +kernel
theorem dX9_tick_8 : decode cX9_tick 8 = .ok (.aload_n 0, 1) := by decide +kernel
theorem dX9_tick_9 : decode cX9_tick 9 = .ok (.getfield 7, 3) := by decide +kernel
theorem dX9_tick_12 : decode cX9_tick 12 = .ok (.iload_n 1, 1) := by decide +kernel
theorem dX9_tick_13 : decode cX9_tick 13 = .ok (.bipush 6, 2) := by decide +kernel
theorem dX9_tick_15 : decode cX9_tick 15 = .ok (.iadd, 1) := by decide +kernel
theorem dX9_tick_16 : decode cX9_tick 16 = .ok (.iaload, 1) := by decide +kernel
theorem dX9_tick_17 : decode cX9_tick 17 = .ok (.imul, 1) := by decide +kernel
theorem dX9_tick_18 : decode cX9_tick 18 = .ok (.bipush 10, 2) := by decide +kernel
theorem dX9_tick_20 : decode cX9_tick 20 = .ok (.idiv, 1) := by decide +kernel
theorem dX9_tick_21 : decode cX9_tick 21 = .ok (.istore_n 3, 1) := by decide +kernel
theorem dX9_tick_22 : decode cX9_tick 22 = .ok (.iload_n 2, 1) := by decide +kernel
theorem dX9_tick_23 : decode cX9_tick 23 = .ok (.ifCond .lt 40, 3) := by decide +kernel
theorem dX9_tick_26 : decode cX9_tick 26 = .ok (.iload_n 3, 1) := by decide +kernel
theorem dX9_tick_27 : decode cX9_tick 27 = .ok (.aload_n 0, 1) := by decide +kernel
theorem dX9_tick_28 : decode cX9_tick 28 = .ok (.getfield 7, 3) := by decide +kernel
theorem dX9_tick_31 : decode cX9_tick 31 = .ok (.iconst 0, 1) := by decide +kernel
theorem dX9_tick_32 : decode cX9_tick 32 = .ok (.iaload, 1) := by decide +kernel
theorem dX9_tick_33 : decode cX9_tick 33 = .ok (.if_icmp .le 30, 3) := by decide +kernel
theorem dX9_tick_36 : decode cX9_tick 36 = .ok (.aload_n 0, 1) := by decide +kernel
theorem dX9_tick_37 : decode cX9_tick 37 = .ok (.iload_n 1, 1) := by decide +kernel
theorem dX9_tick_38 : decode cX9_tick 38 = .ok (.invokevirtual 75, 3) := by decide +kernel
theorem dX9_tick_41 : decode cX9_tick 41 = .ok (.aload_n 0, 1) := by decide +kernel
theorem dX9_tick_42 : decode cX9_tick 42 = .ok (.getfield 7, 3) := by decide +kernel
theorem dX9_tick_45 : decode cX9_tick 45 = .ok (.iload_n 1, 1) := by decide +kernel
theorem dX9_tick_46 : decode cX9_tick 46 = .ok (.bipush 21, 2) := by decide +kernel
theorem dX9_tick_48 : decode cX9_tick 48 = .ok (.iadd, 1) := by decide +kernel
theorem dX9_tick_49 : decode cX9_tick 49 = .ok (.dup2, 1) := by decide +kernel
theorem dX9_tick_50 : decode cX9_tick 50 = .ok (.iaload, 1) := by decide +kernel
theorem dX9_tick_51 : decode cX9_tick 51 = .ok (.iconst 1, 1) := by decide +kernel
theorem dX9_tick_52 : decode cX9_tick 52 = .ok (.iadd, 1) := by decide +kernel
theorem dX9_tick_53 : decode cX9_tick 53 = .ok (.iastore, 1) := by decide +kernel
theorem dX9_tick_54 : decode cX9_tick 54 = .ok (.aload_n 0, 1) := by decide +kernel
theorem dX9_tick_55 : decode cX9_tick 55 = .ok (.iconst 1, 1) := by decide +kernel
theorem dX9_tick_56 : decode cX9_tick 56 = .ok (.iload_n 2, 1) := by decide +kernel
theorem dX9_tick_57 : decode cX9_tick 57 = .ok (.invokevirtual 60, 3) := by decide +kernel
theorem dX9_tick_60 : decode cX9_tick 60 = .ok (.goto 60, 3) := by decide +kernel
theorem dX9_tick_63 : decode cX9_tick 63 = .ok (.aload_n 0, 1) := by decide +kernel
theorem dX9_tick_64 : decode cX9_tick 64 = .ok (.getfield 7, 3) := by decide +kernel
theorem dX9_tick_67 : decode cX9_tick 67 = .ok (.iconst 0, 1) := by decide +kernel
theorem dX9_tick_68 : decode cX9_tick 68 = .ok (.dup2, 1) := by decide +kernel
theorem dX9_tick_69 : decode cX9_tick 69 = .ok (.iaload, 1) := by decide +kernel
theorem dX9_tick_70 : decode cX9_tick 70 = .ok (.iload_n 2, 1) := by decide +kernel
theorem dX9_tick_71 : decode cX9_tick 71 = .ok (.ifCond .lt 7, 3) := by decide +kernel
theorem dX9_tick_74 : decode cX9_tick 74 = .ok (.iload_n 3, 1) := by decide +kernel
theorem dX9_tick_75 : decode cX9_tick 75 = .ok (.goto 4, 3) := by decide +kernel
theorem dX9_tick_78 : decode cX9_tick 78 = .ok (.iconst 0, 1) := by decide +kernel
theorem dX9_tick_79 : decode cX9_tick 79 = .ok (.isub, 1) := by decide +kernel
theorem dX9_tick_80 : decode cX9_tick 80 = .ok (.iastore, 1) := by decide +kernel
theorem dX9_tick_81 : decode cX9_tick 81 = .ok (.aload_n 0, 1) := by decide +kernel
theorem dX9_tick_82 : decode cX9_tick 82 = .ok (.dup, 1) := by decide +kernel
theorem dX9_tick_83 : decode cX9_tick 83 = .ok (.getfield 81, 3) := by decide +kernel
theorem dX9_tick_86 : decode cX9_tick 86 = .ok (.iload_n 3, 1) := by decide +kernel
theorem dX9_tick_87 : decode cX9_tick 87 = .ok (.iadd, 1) := by decide +kernel
theorem dX9_tick_88 : decode cX9_tick 88 = .ok (.putfield 81, 3) := by decide +kernel
theorem dX9_tick_91 : decode cX9_tick 91 = .ok (.aload_n 0, 1) := by decide +kernel
theorem dX9_tick_92 : decode cX9_tick 92 = .ok (.getfield 7, 3) := by decide +kernel
theorem dX9_tick_95 : decode cX9_tick 95 = .ok (.iload_n 1, 1) := by decide +kernel
theorem dX9_tick_96 : decode cX9_tick 96 = .ok (.bipush 7, 2) := by decide +kernel
theorem dX9_tick_98 : decode cX9_tick 98 = .ok (.iadd, 1) := by decide +kernel
theorem dX9_tick_99 : decode cX9_tick 99 = .ok (.iaload, 1) := by decide +kernel
theorem dX9_tick_100 : decode cX9_tick 100 = .ok (.ifCond .ne 13, 3) := by decide +kernel
theorem dX9_tick_103 : decode cX9_tick 103 = .ok (.aload_n 0, 1) := by decide +kernel
theorem dX9_tick_104 : decode cX9_tick 104 = .ok (.iload_n 1, 1) := by decide +kernel
theorem dX9_tick_105 : decode cX9_tick 105 = .ok (.iload_n 2, 1) := by decide +kernel
theorem dX9_tick_106 : decode cX9_tick 106 = .ok (.iload_n 3, 1) := by decide +kernel
theorem dX9_tick_107 : decode cX9_tick 107 = .ok (.invokevirtual 84, 3) := by decide +kernel
theorem dX9_tick_110 : decode cX9_tick 110 = .ok (.goto 10, 3) := by decide +kernel
theorem dX9_tick_113 : decode cX9_tick 113 = .ok (.aload_n 0, 1) := by decide +kernel
theorem dX9_tick_114 : decode cX9_tick 114 = .ok (.iload_n 1, 1) := by decide +kernel
theorem dX9_tick_115 : decode cX9_tick 115 = .ok (.iload_n 2, 1) := by decide +kernel
