theorem dL_cell_0 : decode cL_cell 0 = .ok (.iload_n 1, 1) := by decide +kernel
theorem dL_cell_1 : decode cL_cell 1 = .ok (.aload_n 0, 1) := by decide +kernel
theorem dL_cell_2 : decode cL_cell 2 = .ok (.arraylength, 1) := by decide +kernel
theorem dL_cell_3 : decode cL_cell 3 = .ok (.if_icmp .ge 9, 3) := by decide +kernel
theorem dL_cell_6 : decode cL_cell 6 = .ok (.aload_n 0, 1) := by decide +kernel
theorem dL_cell_7 : decode cL_cell 7 = .ok (.iload_n 1, 1) := by decide +kernel
theorem dL_cell_8 : decode cL_cell 8 = .ok (.iaload, 1) := by decide +kernel
theorem dL_cell_9 : decode cL_cell 9 = .ok (.goto 4, 3) := by decide +kernel
theorem dL_cell_12 : decode cL_cell 12 = .ok (.iconst 0, 1) := by decide +kernel
theorem dL_cell_13 : decode cL_cell 13 = .ok (.ireturn, 1) := by decide +kernel
theorem dL_put_0 : decode cL_put 0 = .ok (.aload 4, 2) := by decide +kernel
theorem dL_put_2 : decode cL_put 2 = .ok (.iconst 0, 1) := by decide +kernel
theorem dL_put_3 : decode cL_put 3 = .ok (.aload_n 0, 1) := by decide +kernel
theorem dL_put_4 : decode cL_put 4 = .ok (.iload_n 1, 1) := by decide +kernel
theorem dL_put_5 : decode cL_put 5 = .ok (.iload_n 2, 1) := by decide +kernel
theorem dL_put_6 : decode cL_put 6 = .ok (.iload_n 3, 1) := by decide +kernel
theorem dL_put_7 : decode cL_put 7 = .ok (.invokevirtual 7, 3) := by decide +kernel
theorem dL_put_10 : decode cL_put 10 = .ok (.ifCond .eq 7, 3) := by decide +kernel
theorem dL_put_13 : decode cL_put 13 = .ok (.lconst 1, 1) := by decide +kernel
theorem dL_put_14 : decode cL_put 14 = .ok (.goto 4, 3) := by decide +kernel
theorem dL_put_17 : decode cL_put 17 = .ok (.lconst 0, 1) := by decide +kernel
theorem dL_put_18 : decode cL_put 18 = .ok (.lastore, 1) := by decide +kernel
theorem dL_put_19 : decode cL_put 19 = .ok (.goto 7, 3) := by decide +kernel
theorem dL_put_22 : decode cL_put 22 = .ok (.astore 5, 2) := by decide +kernel
theorem dL_put_24 : decode cL_put 24 = .ok (.iconst 1, 1) := by decide +kernel
theorem dL_put_25 : decode cL_put 25 = .ok (.ireturn, 1) := by decide +kernel
theorem dL_put_26 : decode cL_put 26 = .ok (.iconst 0, 1) := by decide +kernel
theorem dL_put_27 : decode cL_put 27 = .ok (.ireturn, 1) := by decide +kernel
theorem dL_at_0 : decode cL_at 0 = .ok (.aload_n 3, 1) := by decide +kernel
theorem dL_at_1 : decode cL_at 1 = .ok (.iconst 0, 1) := by decide +kernel
theorem dL_at_2 : decode cL_at 2 = .ok (.aload_n 0, 1) := by decide +kernel
theorem dL_at_3 : decode cL_at 3 = .ok (.iload_n 1, 1) := by decide +kernel
theorem dL_at_4 : decode cL_at 4 = .ok (.iload_n 2, 1) := by decide +kernel
theorem dL_at_5 : decode cL_at 5 = .ok (.invokevirtual 15, 3) := by decide +kernel
theorem dL_at_8 : decode cL_at 8 = .ok (.ifCond .eq 7, 3) := by decide +kernel
theorem dL_at_11 : decode cL_at 11 = .ok (.lconst 1, 1) := by decide +kernel
theorem dL_at_12 : decode cL_at 12 = .ok (.goto 4, 3) := by decide +kernel
theorem dL_at_15 : decode cL_at 15 = .ok (.lconst 0, 1) := by decide +kernel
theorem dL_at_16 : decode cL_at 16 = .ok (.lastore, 1) := by decide +kernel
theorem dL_at_17 : decode cL_at 17 = .ok (.goto 7, 3) := by decide +kernel
theorem dL_at_20 : decode cL_at 20 = .ok (.astore 4, 2) := by decide +kernel
theorem dL_at_22 : decode cL_at 22 = .ok (.iconst 1, 1) := by decide +kernel
theorem dL_at_23 : decode cL_at 23 = .ok (.ireturn, 1) := by decide +kernel
theorem dL_at_24 : decode cL_at 24 = .ok (.iconst 0, 1) := by decide +kernel
theorem dL_at_25 : decode cL_at 25 = .ok (.ireturn, 1) := by decide +kernel
theorem dL_prune_0 : decode cL_prune 0 = .ok (.aload_n 2, 1) := by decide +kernel
theorem dL_prune_1 : decode cL_prune 1 = .ok (.iconst 0, 1) := by decide +kernel
theorem dL_prune_2 : decode cL_prune 2 = .ok (.aload_n 0, 1) := by decide +kernel
theorem dL_prune_3 : decode cL_prune 3 = .ok (.iload_n 1, 1) := by decide +kernel
theorem dL_prune_4 : decode cL_prune 4 = .ok (.invokevirtual 19, 3) := by decide +kernel
theorem dL_prune_7 : decode cL_prune 7 = .ok (.i2l, 1) := by decide +kernel
theorem dL_prune_8 : decode cL_prune 8 = .ok (.lastore, 1) := by decide +kernel
theorem dL_prune_9 : decode cL_prune 9 = .ok (.goto 9, 3) := by decide +kernel
theorem dL_prune_12 : decode cL_prune 12 = .ok (.astore_n 3, 1) := by decide +kernel
theorem dL_prune_13 : decode cL_prune 13 = .ok (.iconst 1, 1) := by decide +kernel
theorem dL_prune_14 : decode cL_prune 14 = .ok (.ireturn, 1) := by decide +kernel
theorem dL_prune_15 : decode cL_prune 15 = .ok (.astore_n 3, 1) := by decide +kernel
theorem dL_prune_16 : decode cL_prune 16 = .ok (.iconst 2, 1) := by decide +kernel
theorem dL_prune_17 : decode cL_prune 17 = .ok (.ireturn, 1) := by decide +kernel
theorem dL_prune_18 : decode cL_prune 18 = .ok (.iconst 0, 1) := by decide +kernel
theorem dL_prune_19 : decode cL_prune 19 = .ok (.ireturn, 1) := by decide +kernel
theorem dL_strokes_0 : decode cL_strokes 0 = .ok (.aload_n 1, 1) := by decide +kernel
theorem dL_strokes_1 : decode cL_strokes 1 = .ok (.iconst 0, 1) := by decide +kernel
theorem dL_strokes_2 : decode cL_strokes 2 = .ok (.aload_n 0, 1) := by decide +kernel
theorem dL_strokes_3 : decode cL_strokes 3 = .ok (.invokevirtual 27, 3) := by decide +kernel
theorem dL_strokes_6 : decode cL_strokes 6 = .ok (.i2l, 1) := by decide +kernel
theorem dL_strokes_7 : decode cL_strokes 7 = .ok (.lastore, 1) := by decide +kernel
theorem dL_strokes_8 : decode cL_strokes 8 = .ok (.goto 6, 3) := by decide +kernel
theorem dL_strokes_11 : decode cL_strokes 11 = .ok (.astore_n 2, 1) := by decide +kernel
theorem dL_strokes_12 : decode cL_strokes 12 = .ok (.iconst 1, 1) := by decide +kernel
theorem dL_strokes_13 : decode cL_strokes 13 = .ok (.ireturn, 1) := by decide +kernel
theorem dL_strokes_14 : decode cL_strokes 14 = .ok (.iconst 0, 1) := by decide +kernel
theorem dL_strokes_15 : decode cL_strokes 15 = .ok (.ireturn, 1) := by decide +kernel
theorem dL_points_0 : decode cL_points 0 = .ok (.aload_n 2, 1) := by decide +kernel
theorem dL_points_1 : decode cL_points 1 = .ok (.iconst 0, 1) := by decide +kernel
theorem dL_points_2 : decode cL_points 2 = .ok (.aload_n 0, 1) := by decide +kernel
theorem dL_points_3 : decode cL_points 3 = .ok (.iload_n 1, 1) := by decide +kernel
theorem dL_points_4 : decode cL_points 4 = .ok (.invokevirtual 31, 3) := by decide +kernel
theorem dL_points_7 : decode cL_points 7 = .ok (.i2l, 1) := by decide +kernel
theorem dL_points_8 : decode cL_points 8 = .ok (.lastore, 1) := by decide +kernel
theorem dL_points_9 : decode cL_points 9 = .ok (.goto 9, 3) := by decide +kernel
theorem dL_points_12 : decode cL_points 12 = .ok (.astore_n 3, 1) := by decide +kernel
theorem dL_points_13 : decode cL_points 13 = .ok (.iconst 1, 1) := by decide +kernel
theorem dL_points_14 : decode cL_points 14 = .ok (.ireturn, 1) := by decide +kernel
theorem dL_points_15 : decode cL_points 15 = .ok (.astore_n 3, 1) := by decide +kernel
theorem dL_points_16 : decode cL_points 16 = .ok (.iconst 2, 1) := by decide +kernel
theorem dL_points_17 : decode cL_points 17 = .ok (.ireturn, 1) := by decide +kernel
theorem dL_points_18 : decode cL_points 18 = .ok (.iconst 0, 1) := by decide +kernel
theorem dL_points_19 : decode cL_points 19 = .ok (.ireturn, 1) := by decide +kernel
theorem dL_place_0 : decode cL_place 0 = .ok (.aload 4, 2) := by decide +kernel
theorem dL_place_2 : decode cL_place 2 = .ok (.iconst 0, 1) := by decide +kernel
theorem dL_place_3 : decode cL_place 3 = .ok (.aload_n 0, 1) := by decide +kernel
theorem dL_place_4 : decode cL_place 4 = .ok (.iload_n 1, 1) := by decide +kernel
theorem dL_place_5 : decode cL_place 5 = .ok (.iload_n 2, 1) := by decide +kernel
theorem dL_place_6 : decode cL_place 6 = .ok (.iload_n 3, 1) := by decide +kernel
theorem dL_place_7 : decode cL_place 7 = .ok (.invokevirtual 34, 3) := by decide +kernel
theorem dL_place_10 : decode cL_place 10 = .ok (.i2l, 1) := by decide +kernel
theorem dL_place_11 : decode cL_place 11 = .ok (.lastore, 1) := by decide +kernel
theorem dL_place_12 : decode cL_place 12 = .ok (.goto 11, 3) := by decide +kernel
theorem dL_place_15 : decode cL_place 15 = .ok (.astore 5, 2) := by decide +kernel
theorem dL_place_17 : decode cL_place 17 = .ok (.iconst 1, 1) := by decide +kernel
theorem dL_place_18 : decode cL_place 18 = .ok (.ireturn, 1) := by decide +kernel
theorem dL_place_19 : decode cL_place 19 = .ok (.astore 5, 2) := by decide +kernel
theorem dL_place_21 : decode cL_place 21 = .ok (.iconst 2, 1) := by decide +kernel
theorem dL_place_22 : decode cL_place 22 = .ok (.ireturn, 1) := by decide +kernel
theorem dL_place_23 : decode cL_place 23 = .ok (.iconst 0, 1) := by decide +kernel
theorem dL_place_24 : decode cL_place 24 = .ok (.ireturn, 1) := by decide +kernel
theorem dL_distance2_0 : decode cL_distance2 0 = .ok (.aload_n 3, 1) := by decide +kernel
theorem dL_distance2_1 : decode cL_distance2 1 = .ok (.iconst 0, 1) := by decide +kernel
theorem dL_distance2_2 : decode cL_distance2 2 = .ok (.aload_n 0, 1) := by decide +kernel
theorem dL_distance2_3 : decode cL_distance2 3 = .ok (.iload_n 1, 1) := by decide +kernel
theorem dL_distance2_4 : decode cL_distance2 4 = .ok (.iload_n 2, 1) := by decide +kernel
theorem dL_distance2_5 : decode cL_distance2 5 = .ok (.invokevirtual 38, 3) := by decide +kernel
theorem dL_distance2_8 : decode cL_distance2 8 = .ok (.lastore, 1) := by decide +kernel
theorem dL_distance2_9 : decode cL_distance2 9 = .ok (.goto 7, 3) := by decide +kernel
theorem dL_distance2_12 : decode cL_distance2 12 = .ok (.astore 4, 2) := by decide +kernel
theorem dL_distance2_14 : decode cL_distance2 14 = .ok (.iconst 1, 1) := by decide +kernel
theorem dL_distance2_15 : decode cL_distance2 15 = .ok (.ireturn, 1) := by decide +kernel
theorem dL_distance2_16 : decode cL_distance2 16 = .ok (.iconst 0, 1) := by decide +kernel
theorem dL_distance2_17 : decode cL_distance2 17 = .ok (.ireturn, 1) := by decide +kernel
theorem dL_crossing_0 : decode cL_crossing 0 = .ok (.aload_n 3, 1) := by decide +kernel
theorem dL_crossing_1 : decode cL_crossing 1 = .ok (.iconst 0, 1) := by decide +kernel
theorem dL_crossing_2 : decode cL_crossing 2 = .ok (.aload_n 0, 1) := by decide +kernel
theorem dL_crossing_3 : decode cL_crossing 3 = .ok (.iload_n 1, 1) := by decide +kernel
theorem dL_crossing_4 : decode cL_crossing 4 = .ok (.iload_n 2, 1) := by decide +kernel
theorem dL_crossing_5 : decode cL_crossing 5 = .ok (.invokevirtual 42, 3) := by decide +kernel
theorem dL_crossing_8 : decode cL_crossing 8 = .ok (.i2l, 1) := by decide +kernel
theorem dL_crossing_9 : decode cL_crossing 9 = .ok (.lastore, 1) := by decide +kernel
theorem dL_crossing_10 : decode cL_crossing 10 = .ok (.goto 15, 3) := by decide +kernel
theorem dL_crossing_13 : decode cL_crossing 13 = .ok (.astore 4, 2) := by decide +kernel
theorem dL_crossing_15 : decode cL_crossing 15 = .ok (.iconst 1, 1) := by decide +kernel
theorem dL_crossing_16 : decode cL_crossing 16 = .ok (.ireturn, 1) := by decide +kernel
theorem dL_crossing_17 : decode cL_crossing 17 = .ok (.astore 4, 2) := by decide +kernel
theorem dL_crossing_19 : decode cL_crossing 19 = .ok (.iconst 2, 1) := by decide +kernel
theorem dL_crossing_20 : decode cL_crossing 20 = .ok (.ireturn, 1) := by decide +kernel
theorem dL_crossing_21 : decode cL_crossing 21 = .ok (.astore 4, 2) := by decide +kernel
theorem dL_crossing_23 : decode cL_crossing 23 = .ok (.iconst 3, 1) := by decide +kernel
theorem dL_crossing_24 : decode cL_crossing 24 = .ok (.ireturn, 1) := by decide +kernel
theorem dL_crossing_25 : decode cL_crossing 25 = .ok (.iconst 0, 1) := by decide +kernel
theorem dL_crossing_26 : decode cL_crossing 26 = .ok (.ireturn, 1) := by decide +kernel
theorem dL_joined_0 : decode cL_joined 0 = .ok (.aload_n 2, 1) := by decide +kernel
theorem dL_joined_1 : decode cL_joined 1 = .ok (.iconst 0, 1) := by decide +kernel
theorem dL_joined_2 : decode cL_joined 2 = .ok (.aload_n 0, 1) := by decide +kernel
theorem dL_joined_3 : decode cL_joined 3 = .ok (.iload_n 1, 1) := by decide +kernel
theorem dL_joined_4 : decode cL_joined 4 = .ok (.invokevirtual 46, 3) := by decide +kernel
theorem dL_joined_7 : decode cL_joined 7 = .ok (.i2l, 1) := by decide +kernel
theorem dL_joined_8 : decode cL_joined 8 = .ok (.lastore, 1) := by decide +kernel
theorem dL_joined_9 : decode cL_joined 9 = .ok (.goto 9, 3) := by decide +kernel
theorem dL_joined_12 : decode cL_joined 12 = .ok (.astore_n 3, 1) := by decide +kernel
theorem dL_joined_13 : decode cL_joined 13 = .ok (.iconst 1, 1) := by decide +kernel
theorem dL_joined_14 : decode cL_joined 14 = .ok (.ireturn, 1) := by decide +kernel
theorem dL_joined_15 : decode cL_joined 15 = .ok (.astore_n 3, 1) := by decide +kernel
theorem dL_joined_16 : decode cL_joined 16 = .ok (.iconst 2, 1) := by decide +kernel
theorem dL_joined_17 : decode cL_joined 17 = .ok (.ireturn, 1) := by decide +kernel
theorem dL_joined_18 : decode cL_joined 18 = .ok (.iconst 0, 1) := by decide +kernel
theorem dL_joined_19 : decode cL_joined 19 = .ok (.ireturn, 1) := by decide +kernel
theorem dL_draw_0 : decode cL_draw 0 = .ok (.aload_n 1, 1) := by decide +kernel
theorem dL_draw_1 : decode cL_draw 1 = .ok (.iconst 0, 1) := by decide +kernel
theorem dL_draw_2 : decode cL_draw 2 = .ok (.aload_n 0, 1) := by decide +kernel
theorem dL_draw_3 : decode cL_draw 3 = .ok (.invokevirtual 49, 3) := by decide +kernel
theorem dL_draw_6 : decode cL_draw 6 = .ok (.i2l, 1) := by decide +kernel
theorem dL_draw_7 : decode cL_draw 7 = .ok (.lastore, 1) := by decide +kernel
theorem dL_draw_8 : decode cL_draw 8 = .ok (.goto 6, 3) := by decide +kernel
theorem dL_draw_11 : decode cL_draw 11 = .ok (.astore_n 2, 1) := by decide +kernel
theorem dL_draw_12 : decode cL_draw 12 = .ok (.iconst 1, 1) := by decide +kernel
theorem dL_draw_13 : decode cL_draw 13 = .ok (.ireturn, 1) := by decide +kernel
theorem dL_draw_14 : decode cL_draw 14 = .ok (.iconst 0, 1) := by decide +kernel
theorem dL_draw_15 : decode cL_draw 15 = .ok (.ireturn, 1) := by decide +kernel
