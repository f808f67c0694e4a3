/-! The law's own methods. Written by wip/gen/wrap.py. -/
theorem dL_scene_0 : decode cL_scene 0 = .ok (.aload_n 2, 1) := by decide +kernel
theorem dL_scene_1 : decode cL_scene 1 = .ok (.iconst 0, 1) := by decide +kernel
theorem dL_scene_2 : decode cL_scene 2 = .ok (.aload_n 0, 1) := by decide +kernel
theorem dL_scene_3 : decode cL_scene 3 = .ok (.iload_n 1, 1) := by decide +kernel
theorem dL_scene_4 : decode cL_scene 4 = .ok (.invokevirtual 7, 3) := by decide +kernel
theorem dL_scene_7 : decode cL_scene 7 = .ok (.i2l, 1) := by decide +kernel
theorem dL_scene_8 : decode cL_scene 8 = .ok (.lastore, 1) := by decide +kernel
theorem dL_scene_9 : decode cL_scene 9 = .ok (.goto 6, 3) := by decide +kernel
theorem dL_scene_12 : decode cL_scene 12 = .ok (.astore_n 3, 1) := by decide +kernel
theorem dL_scene_13 : decode cL_scene 13 = .ok (.iconst 1, 1) := by decide +kernel
theorem dL_scene_14 : decode cL_scene 14 = .ok (.ireturn, 1) := by decide +kernel
theorem dL_scene_15 : decode cL_scene 15 = .ok (.iconst 0, 1) := by decide +kernel
theorem dL_scene_16 : decode cL_scene 16 = .ok (.ireturn, 1) := by decide +kernel
theorem dL_count_0 : decode cL_count 0 = .ok (.aload_n 2, 1) := by decide +kernel
theorem dL_count_1 : decode cL_count 1 = .ok (.iconst 0, 1) := by decide +kernel
theorem dL_count_2 : decode cL_count 2 = .ok (.aload_n 0, 1) := by decide +kernel
theorem dL_count_3 : decode cL_count 3 = .ok (.iload_n 1, 1) := by decide +kernel
theorem dL_count_4 : decode cL_count 4 = .ok (.invokevirtual 15, 3) := by decide +kernel
theorem dL_count_7 : decode cL_count 7 = .ok (.i2l, 1) := by decide +kernel
theorem dL_count_8 : decode cL_count 8 = .ok (.lastore, 1) := by decide +kernel
theorem dL_count_9 : decode cL_count 9 = .ok (.goto 6, 3) := by decide +kernel
theorem dL_count_12 : decode cL_count 12 = .ok (.astore_n 3, 1) := by decide +kernel
theorem dL_count_13 : decode cL_count 13 = .ok (.iconst 1, 1) := by decide +kernel
theorem dL_count_14 : decode cL_count 14 = .ok (.ireturn, 1) := by decide +kernel
theorem dL_count_15 : decode cL_count 15 = .ok (.iconst 0, 1) := by decide +kernel
theorem dL_count_16 : decode cL_count 16 = .ok (.ireturn, 1) := by decide +kernel
theorem dL_mark_0 : decode cL_mark 0 = .ok (.aload_n 2, 1) := by decide +kernel
theorem dL_mark_1 : decode cL_mark 1 = .ok (.iconst 0, 1) := by decide +kernel
theorem dL_mark_2 : decode cL_mark 2 = .ok (.aload_n 0, 1) := by decide +kernel
theorem dL_mark_3 : decode cL_mark 3 = .ok (.iload_n 1, 1) := by decide +kernel
theorem dL_mark_4 : decode cL_mark 4 = .ok (.invokevirtual 20, 3) := by decide +kernel
theorem dL_mark_7 : decode cL_mark 7 = .ok (.i2l, 1) := by decide +kernel
theorem dL_mark_8 : decode cL_mark 8 = .ok (.lastore, 1) := by decide +kernel
theorem dL_mark_9 : decode cL_mark 9 = .ok (.goto 6, 3) := by decide +kernel
theorem dL_mark_12 : decode cL_mark 12 = .ok (.astore_n 3, 1) := by decide +kernel
theorem dL_mark_13 : decode cL_mark 13 = .ok (.iconst 1, 1) := by decide +kernel
theorem dL_mark_14 : decode cL_mark 14 = .ok (.ireturn, 1) := by decide +kernel
theorem dL_mark_15 : decode cL_mark 15 = .ok (.iconst 0, 1) := by decide +kernel
theorem dL_mark_16 : decode cL_mark 16 = .ok (.ireturn, 1) := by decide +kernel
theorem dL_inches_0 : decode cL_inches 0 = .ok (.aload_n 3, 1) := by decide +kernel
theorem dL_inches_1 : decode cL_inches 1 = .ok (.iconst 0, 1) := by decide +kernel
theorem dL_inches_2 : decode cL_inches 2 = .ok (.aload_n 0, 1) := by decide +kernel
theorem dL_inches_3 : decode cL_inches 3 = .ok (.iload_n 1, 1) := by decide +kernel
theorem dL_inches_4 : decode cL_inches 4 = .ok (.iload_n 2, 1) := by decide +kernel
theorem dL_inches_5 : decode cL_inches 5 = .ok (.invokevirtual 23, 3) := by decide +kernel
theorem dL_inches_8 : decode cL_inches 8 = .ok (.i2l, 1) := by decide +kernel
theorem dL_inches_9 : decode cL_inches 9 = .ok (.lastore, 1) := by decide +kernel
theorem dL_inches_10 : decode cL_inches 10 = .ok (.goto 7, 3) := by decide +kernel
theorem dL_inches_13 : decode cL_inches 13 = .ok (.astore 4, 2) := by decide +kernel
theorem dL_inches_15 : decode cL_inches 15 = .ok (.iconst 1, 1) := by decide +kernel
theorem dL_inches_16 : decode cL_inches 16 = .ok (.ireturn, 1) := by decide +kernel
theorem dL_inches_17 : decode cL_inches 17 = .ok (.iconst 0, 1) := by decide +kernel
theorem dL_inches_18 : decode cL_inches 18 = .ok (.ireturn, 1) := by decide +kernel
theorem dL_turn_0 : decode cL_turn 0 = .ok (.aload_n 2, 1) := by decide +kernel
theorem dL_turn_1 : decode cL_turn 1 = .ok (.iconst 0, 1) := by decide +kernel
theorem dL_turn_2 : decode cL_turn 2 = .ok (.aload_n 0, 1) := by decide +kernel
theorem dL_turn_3 : decode cL_turn 3 = .ok (.iload_n 1, 1) := by decide +kernel
theorem dL_turn_4 : decode cL_turn 4 = .ok (.invokevirtual 27, 3) := by decide +kernel
theorem dL_turn_7 : decode cL_turn 7 = .ok (.i2l, 1) := by decide +kernel
theorem dL_turn_8 : decode cL_turn 8 = .ok (.lastore, 1) := by decide +kernel
theorem dL_turn_9 : decode cL_turn 9 = .ok (.goto 6, 3) := by decide +kernel
theorem dL_turn_12 : decode cL_turn 12 = .ok (.astore_n 3, 1) := by decide +kernel
theorem dL_turn_13 : decode cL_turn 13 = .ok (.iconst 1, 1) := by decide +kernel
theorem dL_turn_14 : decode cL_turn 14 = .ok (.ireturn, 1) := by decide +kernel
theorem dL_turn_15 : decode cL_turn 15 = .ok (.iconst 0, 1) := by decide +kernel
theorem dL_turn_16 : decode cL_turn 16 = .ok (.ireturn, 1) := by decide +kernel
theorem dL_tenth_0 : decode cL_tenth 0 = .ok (.aload_n 3, 1) := by decide +kernel
theorem dL_tenth_1 : decode cL_tenth 1 = .ok (.iconst 0, 1) := by decide +kernel
theorem dL_tenth_2 : decode cL_tenth 2 = .ok (.aload_n 0, 1) := by decide +kernel
theorem dL_tenth_3 : decode cL_tenth 3 = .ok (.iload_n 1, 1) := by decide +kernel
theorem dL_tenth_4 : decode cL_tenth 4 = .ok (.iload_n 2, 1) := by decide +kernel
theorem dL_tenth_5 : decode cL_tenth 5 = .ok (.invokevirtual 30, 3) := by decide +kernel
theorem dL_tenth_8 : decode cL_tenth 8 = .ok (.i2l, 1) := by decide +kernel
theorem dL_tenth_9 : decode cL_tenth 9 = .ok (.lastore, 1) := by decide +kernel
theorem dL_tenth_10 : decode cL_tenth 10 = .ok (.goto 7, 3) := by decide +kernel
theorem dL_tenth_13 : decode cL_tenth 13 = .ok (.astore 4, 2) := by decide +kernel
theorem dL_tenth_15 : decode cL_tenth 15 = .ok (.iconst 1, 1) := by decide +kernel
theorem dL_tenth_16 : decode cL_tenth 16 = .ok (.ireturn, 1) := by decide +kernel
theorem dL_tenth_17 : decode cL_tenth 17 = .ok (.iconst 0, 1) := by decide +kernel
theorem dL_tenth_18 : decode cL_tenth 18 = .ok (.ireturn, 1) := by decide +kernel
theorem dL_all_0 : decode cL_all 0 = .ok (.aload_n 2, 1) := by decide +kernel
theorem dL_all_1 : decode cL_all 1 = .ok (.iconst 0, 1) := by decide +kernel
theorem dL_all_2 : decode cL_all 2 = .ok (.aload_n 0, 1) := by decide +kernel
theorem dL_all_3 : decode cL_all 3 = .ok (.iload_n 1, 1) := by decide +kernel
theorem dL_all_4 : decode cL_all 4 = .ok (.invokevirtual 33, 3) := by decide +kernel
theorem dL_all_7 : decode cL_all 7 = .ok (.i2l, 1) := by decide +kernel
theorem dL_all_8 : decode cL_all 8 = .ok (.lastore, 1) := by decide +kernel
theorem dL_all_9 : decode cL_all 9 = .ok (.goto 6, 3) := by decide +kernel
theorem dL_all_12 : decode cL_all 12 = .ok (.astore_n 3, 1) := by decide +kernel
theorem dL_all_13 : decode cL_all 13 = .ok (.iconst 1, 1) := by decide +kernel
theorem dL_all_14 : decode cL_all 14 = .ok (.ireturn, 1) := by decide +kernel
theorem dL_all_15 : decode cL_all 15 = .ok (.iconst 0, 1) := by decide +kernel
theorem dL_all_16 : decode cL_all 16 = .ok (.ireturn, 1) := by decide +kernel
theorem dL_chalk_0 : decode cL_chalk 0 = .ok (.aload_n 3, 1) := by decide +kernel
theorem dL_chalk_1 : decode cL_chalk 1 = .ok (.iconst 0, 1) := by decide +kernel
theorem dL_chalk_2 : decode cL_chalk 2 = .ok (.aload_n 0, 1) := by decide +kernel
theorem dL_chalk_3 : decode cL_chalk 3 = .ok (.iload_n 1, 1) := by decide +kernel
theorem dL_chalk_4 : decode cL_chalk 4 = .ok (.iload_n 2, 1) := by decide +kernel
theorem dL_chalk_5 : decode cL_chalk 5 = .ok (.invokevirtual 36, 3) := by decide +kernel
theorem dL_chalk_8 : decode cL_chalk 8 = .ok (.i2l, 1) := by decide +kernel
theorem dL_chalk_9 : decode cL_chalk 9 = .ok (.lastore, 1) := by decide +kernel
theorem dL_chalk_10 : decode cL_chalk 10 = .ok (.goto 7, 3) := by decide +kernel
theorem dL_chalk_13 : decode cL_chalk 13 = .ok (.astore 4, 2) := by decide +kernel
theorem dL_chalk_15 : decode cL_chalk 15 = .ok (.iconst 1, 1) := by decide +kernel
theorem dL_chalk_16 : decode cL_chalk 16 = .ok (.ireturn, 1) := by decide +kernel
theorem dL_chalk_17 : decode cL_chalk 17 = .ok (.iconst 0, 1) := by decide +kernel
theorem dL_chalk_18 : decode cL_chalk 18 = .ok (.ireturn, 1) := by decide +kernel
theorem dL_best_0 : decode cL_best 0 = .ok (.aload_n 2, 1) := by decide +kernel
theorem dL_best_1 : decode cL_best 1 = .ok (.iconst 0, 1) := by decide +kernel
theorem dL_best_2 : decode cL_best 2 = .ok (.aload_n 0, 1) := by decide +kernel
theorem dL_best_3 : decode cL_best 3 = .ok (.iload_n 1, 1) := by decide +kernel
theorem dL_best_4 : decode cL_best 4 = .ok (.invokevirtual 39, 3) := by decide +kernel
theorem dL_best_7 : decode cL_best 7 = .ok (.i2l, 1) := by decide +kernel
theorem dL_best_8 : decode cL_best 8 = .ok (.lastore, 1) := by decide +kernel
theorem dL_best_9 : decode cL_best 9 = .ok (.goto 6, 3) := by decide +kernel
theorem dL_best_12 : decode cL_best 12 = .ok (.astore_n 3, 1) := by decide +kernel
theorem dL_best_13 : decode cL_best 13 = .ok (.iconst 1, 1) := by decide +kernel
theorem dL_best_14 : decode cL_best 14 = .ok (.ireturn, 1) := by decide +kernel
theorem dL_best_15 : decode cL_best 15 = .ok (.iconst 0, 1) := by decide +kernel
theorem dL_best_16 : decode cL_best 16 = .ok (.ireturn, 1) := by decide +kernel
theorem dL_foretell_0 : decode cL_foretell 0 = .ok (.aload_n 2, 1) := by decide +kernel
theorem dL_foretell_1 : decode cL_foretell 1 = .ok (.iconst 0, 1) := by decide +kernel
theorem dL_foretell_2 : decode cL_foretell 2 = .ok (.aload_n 0, 1) := by decide +kernel
theorem dL_foretell_3 : decode cL_foretell 3 = .ok (.iload_n 1, 1) := by decide +kernel
theorem dL_foretell_4 : decode cL_foretell 4 = .ok (.invokevirtual 42, 3) := by decide +kernel
theorem dL_foretell_7 : decode cL_foretell 7 = .ok (.i2l, 1) := by decide +kernel
theorem dL_foretell_8 : decode cL_foretell 8 = .ok (.lastore, 1) := by decide +kernel
theorem dL_foretell_9 : decode cL_foretell 9 = .ok (.goto 6, 3) := by decide +kernel
theorem dL_foretell_12 : decode cL_foretell 12 = .ok (.astore_n 3, 1) := by decide +kernel
theorem dL_foretell_13 : decode cL_foretell 13 = .ok (.iconst 1, 1) := by decide +kernel
theorem dL_foretell_14 : decode cL_foretell 14 = .ok (.ireturn, 1) := by decide +kernel
theorem dL_foretell_15 : decode cL_foretell 15 = .ok (.iconst 0, 1) := by decide +kernel
theorem dL_foretell_16 : decode cL_foretell 16 = .ok (.ireturn, 1) := by decide +kernel
theorem dL_holes_0 : decode cL_holes 0 = .ok (.aload_n 2, 1) := by decide +kernel
theorem dL_holes_1 : decode cL_holes 1 = .ok (.iconst 0, 1) := by decide +kernel
theorem dL_holes_2 : decode cL_holes 2 = .ok (.aload_n 0, 1) := by decide +kernel
theorem dL_holes_3 : decode cL_holes 3 = .ok (.iload_n 1, 1) := by decide +kernel
theorem dL_holes_4 : decode cL_holes 4 = .ok (.invokevirtual 45, 3) := by decide +kernel
theorem dL_holes_7 : decode cL_holes 7 = .ok (.i2l, 1) := by decide +kernel
theorem dL_holes_8 : decode cL_holes 8 = .ok (.lastore, 1) := by decide +kernel
theorem dL_holes_9 : decode cL_holes 9 = .ok (.goto 6, 3) := by decide +kernel
theorem dL_holes_12 : decode cL_holes 12 = .ok (.astore_n 3, 1) := by decide +kernel
theorem dL_holes_13 : decode cL_holes 13 = .ok (.iconst 1, 1) := by decide +kernel
theorem dL_holes_14 : decode cL_holes 14 = .ok (.ireturn, 1) := by decide +kernel
theorem dL_holes_15 : decode cL_holes 15 = .ok (.iconst 0, 1) := by decide +kernel
theorem dL_holes_16 : decode cL_holes 16 = .ok (.ireturn, 1) := by decide +kernel
theorem dL_light_0 : decode cL_light 0 = .ok (.aload_n 3, 1) := by decide +kernel
theorem dL_light_1 : decode cL_light 1 = .ok (.iconst 0, 1) := by decide +kernel
theorem dL_light_2 : decode cL_light 2 = .ok (.aload_n 0, 1) := by decide +kernel
theorem dL_light_3 : decode cL_light 3 = .ok (.iload_n 1, 1) := by decide +kernel
theorem dL_light_4 : decode cL_light 4 = .ok (.iload_n 2, 1) := by decide +kernel
theorem dL_light_5 : decode cL_light 5 = .ok (.invokevirtual 48, 3) := by decide +kernel
theorem dL_light_8 : decode cL_light 8 = .ok (.i2l, 1) := by decide +kernel
theorem dL_light_9 : decode cL_light 9 = .ok (.lastore, 1) := by decide +kernel
theorem dL_light_10 : decode cL_light 10 = .ok (.goto 7, 3) := by decide +kernel
theorem dL_light_13 : decode cL_light 13 = .ok (.astore 4, 2) := by decide +kernel
theorem dL_light_15 : decode cL_light 15 = .ok (.iconst 1, 1) := by decide +kernel
theorem dL_light_16 : decode cL_light 16 = .ok (.ireturn, 1) := by decide +kernel
theorem dL_light_17 : decode cL_light 17 = .ok (.iconst 0, 1) := by decide +kernel
theorem dL_light_18 : decode cL_light 18 = .ok (.ireturn, 1) := by decide +kernel
theorem dL_marks_0 : decode cL_marks 0 = .ok (.aload_n 2, 1) := by decide +kernel
theorem dL_marks_1 : decode cL_marks 1 = .ok (.iconst 0, 1) := by decide +kernel
theorem dL_marks_2 : decode cL_marks 2 = .ok (.aload_n 0, 1) := by decide +kernel
theorem dL_marks_3 : decode cL_marks 3 = .ok (.iload_n 1, 1) := by decide +kernel
theorem dL_marks_4 : decode cL_marks 4 = .ok (.invokevirtual 51, 3) := by decide +kernel
theorem dL_marks_7 : decode cL_marks 7 = .ok (.i2l, 1) := by decide +kernel
theorem dL_marks_8 : decode cL_marks 8 = .ok (.lastore, 1) := by decide +kernel
theorem dL_marks_9 : decode cL_marks 9 = .ok (.goto 6, 3) := by decide +kernel
theorem dL_marks_12 : decode cL_marks 12 = .ok (.astore_n 3, 1) := by decide +kernel
theorem dL_marks_13 : decode cL_marks 13 = .ok (.iconst 1, 1) := by decide +kernel
theorem dL_marks_14 : decode cL_marks 14 = .ok (.ireturn, 1) := by decide +kernel
theorem dL_marks_15 : decode cL_marks 15 = .ok (.iconst 0, 1) := by decide +kernel
theorem dL_marks_16 : decode cL_marks 16 = .ok (.ireturn, 1) := by decide +kernel
theorem dL_kept_0 : decode cL_kept 0 = .ok (.aload_n 2, 1) := by decide +kernel
theorem dL_kept_1 : decode cL_kept 1 = .ok (.iconst 0, 1) := by decide +kernel
theorem dL_kept_2 : decode cL_kept 2 = .ok (.aload_n 0, 1) := by decide +kernel
theorem dL_kept_3 : decode cL_kept 3 = .ok (.iload_n 1, 1) := by decide +kernel
theorem dL_kept_4 : decode cL_kept 4 = .ok (.invokevirtual 54, 3) := by decide +kernel
theorem dL_kept_7 : decode cL_kept 7 = .ok (.i2l, 1) := by decide +kernel
theorem dL_kept_8 : decode cL_kept 8 = .ok (.lastore, 1) := by decide +kernel
theorem dL_kept_9 : decode cL_kept 9 = .ok (.goto 6, 3) := by decide +kernel
theorem dL_kept_12 : decode cL_kept 12 = .ok (.astore_n 3, 1) := by decide +kernel
theorem dL_kept_13 : decode cL_kept 13 = .ok (.iconst 1, 1) := by decide +kernel
theorem dL_kept_14 : decode cL_kept 14 = .ok (.ireturn, 1) := by decide +kernel
theorem dL_kept_15 : decode cL_kept 15 = .ok (.iconst 0, 1) := by decide +kernel
theorem dL_kept_16 : decode cL_kept 16 = .ok (.ireturn, 1) := by decide +kernel
theorem dL_takes_0 : decode cL_takes 0 = .ok (.aload 6, 2) := by decide +kernel
theorem dL_takes_2 : decode cL_takes 2 = .ok (.iconst 0, 1) := by decide +kernel
theorem dL_takes_3 : decode cL_takes 3 = .ok (.aload_n 0, 1) := by decide +kernel
theorem dL_takes_4 : decode cL_takes 4 = .ok (.iload_n 1, 1) := by decide +kernel
theorem dL_takes_5 : decode cL_takes 5 = .ok (.iload_n 2, 1) := by decide +kernel
theorem dL_takes_6 : decode cL_takes 6 = .ok (.iload_n 3, 1) := by decide +kernel
theorem dL_takes_7 : decode cL_takes 7 = .ok (.iload 4, 2) := by decide +kernel
theorem dL_takes_9 : decode cL_takes 9 = .ok (.iload 5, 2) := by decide +kernel
theorem dL_takes_11 : decode cL_takes 11 = .ok (.invokevirtual 57, 3) := by decide +kernel
theorem dL_takes_14 : decode cL_takes 14 = .ok (.i2l, 1) := by decide +kernel
theorem dL_takes_15 : decode cL_takes 15 = .ok (.lastore, 1) := by decide +kernel
theorem dL_takes_16 : decode cL_takes 16 = .ok (.goto 11, 3) := by decide +kernel
theorem dL_takes_19 : decode cL_takes 19 = .ok (.astore 7, 2) := by decide +kernel
theorem dL_takes_21 : decode cL_takes 21 = .ok (.iconst 1, 1) := by decide +kernel
theorem dL_takes_22 : decode cL_takes 22 = .ok (.ireturn, 1) := by decide +kernel
theorem dL_takes_23 : decode cL_takes 23 = .ok (.astore 7, 2) := by decide +kernel
theorem dL_takes_25 : decode cL_takes 25 = .ok (.iconst 2, 1) := by decide +kernel
theorem dL_takes_26 : decode cL_takes 26 = .ok (.ireturn, 1) := by decide +kernel
theorem dL_takes_27 : decode cL_takes 27 = .ok (.iconst 0, 1) := by decide +kernel
theorem dL_takes_28 : decode cL_takes 28 = .ok (.ireturn, 1) := by decide +kernel
theorem dL_see_0 : decode cL_see 0 = .ok (.aload_n 3, 1) := by decide +kernel
theorem dL_see_1 : decode cL_see 1 = .ok (.iconst 0, 1) := by decide +kernel
theorem dL_see_2 : decode cL_see 2 = .ok (.aload_n 0, 1) := by decide +kernel
theorem dL_see_3 : decode cL_see 3 = .ok (.iload_n 1, 1) := by decide +kernel
theorem dL_see_4 : decode cL_see 4 = .ok (.iload_n 2, 1) := by decide +kernel
theorem dL_see_5 : decode cL_see 5 = .ok (.invokevirtual 61, 3) := by decide +kernel
theorem dL_see_8 : decode cL_see 8 = .ok (.i2l, 1) := by decide +kernel
theorem dL_see_9 : decode cL_see 9 = .ok (.lastore, 1) := by decide +kernel
theorem dL_see_10 : decode cL_see 10 = .ok (.goto 7, 3) := by decide +kernel
theorem dL_see_13 : decode cL_see 13 = .ok (.astore 4, 2) := by decide +kernel
theorem dL_see_15 : decode cL_see 15 = .ok (.iconst 1, 1) := by decide +kernel
theorem dL_see_16 : decode cL_see 16 = .ok (.ireturn, 1) := by decide +kernel
theorem dL_see_17 : decode cL_see 17 = .ok (.iconst 0, 1) := by decide +kernel
theorem dL_see_18 : decode cL_see 18 = .ok (.ireturn, 1) := by decide +kernel
theorem dL_fits_0 : decode cL_fits 0 = .ok (.aload_n 2, 1) := by decide +kernel
theorem dL_fits_1 : decode cL_fits 1 = .ok (.iconst 0, 1) := by decide +kernel
theorem dL_fits_2 : decode cL_fits 2 = .ok (.aload_n 0, 1) := by decide +kernel
theorem dL_fits_3 : decode cL_fits 3 = .ok (.iload_n 1, 1) := by decide +kernel
theorem dL_fits_4 : decode cL_fits 4 = .ok (.invokevirtual 65, 3) := by decide +kernel
theorem dL_fits_7 : decode cL_fits 7 = .ok (.i2l, 1) := by decide +kernel
theorem dL_fits_8 : decode cL_fits 8 = .ok (.lastore, 1) := by decide +kernel
theorem dL_fits_9 : decode cL_fits 9 = .ok (.goto 6, 3) := by decide +kernel
theorem dL_fits_12 : decode cL_fits 12 = .ok (.astore_n 3, 1) := by decide +kernel
theorem dL_fits_13 : decode cL_fits 13 = .ok (.iconst 1, 1) := by decide +kernel
theorem dL_fits_14 : decode cL_fits 14 = .ok (.ireturn, 1) := by decide +kernel
theorem dL_fits_15 : decode cL_fits 15 = .ok (.iconst 0, 1) := by decide +kernel
theorem dL_fits_16 : decode cL_fits 16 = .ok (.ireturn, 1) := by decide +kernel
theorem dL_next_0 : decode cL_next 0 = .ok (.aload_n 3, 1) := by decide +kernel
theorem dL_next_1 : decode cL_next 1 = .ok (.iconst 0, 1) := by decide +kernel
theorem dL_next_2 : decode cL_next 2 = .ok (.aload_n 0, 1) := by decide +kernel
theorem dL_next_3 : decode cL_next 3 = .ok (.iload_n 1, 1) := by decide +kernel
theorem dL_next_4 : decode cL_next 4 = .ok (.iload_n 2, 1) := by decide +kernel
theorem dL_next_5 : decode cL_next 5 = .ok (.invokevirtual 68, 3) := by decide +kernel
theorem dL_next_8 : decode cL_next 8 = .ok (.i2l, 1) := by decide +kernel
theorem dL_next_9 : decode cL_next 9 = .ok (.lastore, 1) := by decide +kernel
theorem dL_next_10 : decode cL_next 10 = .ok (.goto 7, 3) := by decide +kernel
theorem dL_next_13 : decode cL_next 13 = .ok (.astore 4, 2) := by decide +kernel
theorem dL_next_15 : decode cL_next 15 = .ok (.iconst 1, 1) := by decide +kernel
theorem dL_next_16 : decode cL_next 16 = .ok (.ireturn, 1) := by decide +kernel
theorem dL_next_17 : decode cL_next 17 = .ok (.iconst 0, 1) := by decide +kernel
theorem dL_next_18 : decode cL_next 18 = .ok (.ireturn, 1) := by decide +kernel
theorem dL_middle_0 : decode cL_middle 0 = .ok (.aload_n 2, 1) := by decide +kernel
theorem dL_middle_1 : decode cL_middle 1 = .ok (.iconst 0, 1) := by decide +kernel
theorem dL_middle_2 : decode cL_middle 2 = .ok (.aload_n 0, 1) := by decide +kernel
theorem dL_middle_3 : decode cL_middle 3 = .ok (.iload_n 1, 1) := by decide +kernel
theorem dL_middle_4 : decode cL_middle 4 = .ok (.invokevirtual 71, 3) := by decide +kernel
theorem dL_middle_7 : decode cL_middle 7 = .ok (.i2l, 1) := by decide +kernel
theorem dL_middle_8 : decode cL_middle 8 = .ok (.lastore, 1) := by decide +kernel
theorem dL_middle_9 : decode cL_middle 9 = .ok (.goto 6, 3) := by decide +kernel
theorem dL_middle_12 : decode cL_middle 12 = .ok (.astore_n 3, 1) := by decide +kernel
theorem dL_middle_13 : decode cL_middle 13 = .ok (.iconst 1, 1) := by decide +kernel
theorem dL_middle_14 : decode cL_middle 14 = .ok (.ireturn, 1) := by decide +kernel
theorem dL_middle_15 : decode cL_middle 15 = .ok (.iconst 0, 1) := by decide +kernel
theorem dL_middle_16 : decode cL_middle 16 = .ok (.ireturn, 1) := by decide +kernel
theorem dL_runs_0 : decode cL_runs 0 = .ok (.aload_n 3, 1) := by decide +kernel
theorem dL_runs_1 : decode cL_runs 1 = .ok (.iconst 0, 1) := by decide +kernel
theorem dL_runs_2 : decode cL_runs 2 = .ok (.aload_n 0, 1) := by decide +kernel
theorem dL_runs_3 : decode cL_runs 3 = .ok (.iload_n 1, 1) := by decide +kernel
theorem dL_runs_4 : decode cL_runs 4 = .ok (.iload_n 2, 1) := by decide +kernel
theorem dL_runs_5 : decode cL_runs 5 = .ok (.invokevirtual 74, 3) := by decide +kernel
theorem dL_runs_8 : decode cL_runs 8 = .ok (.i2l, 1) := by decide +kernel
theorem dL_runs_9 : decode cL_runs 9 = .ok (.lastore, 1) := by decide +kernel
theorem dL_runs_10 : decode cL_runs 10 = .ok (.goto 7, 3) := by decide +kernel
theorem dL_runs_13 : decode cL_runs 13 = .ok (.astore 4, 2) := by decide +kernel
theorem dL_runs_15 : decode cL_runs 15 = .ok (.iconst 1, 1) := by decide +kernel
theorem dL_runs_16 : decode cL_runs 16 = .ok (.ireturn, 1) := by decide +kernel
theorem dL_runs_17 : decode cL_runs 17 = .ok (.iconst 0, 1) := by decide +kernel
theorem dL_runs_18 : decode cL_runs 18 = .ok (.ireturn, 1) := by decide +kernel
theorem dL_shift_0 : decode cL_shift 0 = .ok (.aload_n 2, 1) := by decide +kernel
theorem dL_shift_1 : decode cL_shift 1 = .ok (.iconst 0, 1) := by decide +kernel
theorem dL_shift_2 : decode cL_shift 2 = .ok (.aload_n 0, 1) := by decide +kernel
theorem dL_shift_3 : decode cL_shift 3 = .ok (.iload_n 1, 1) := by decide +kernel
theorem dL_shift_4 : decode cL_shift 4 = .ok (.invokevirtual 77, 3) := by decide +kernel
theorem dL_shift_7 : decode cL_shift 7 = .ok (.i2l, 1) := by decide +kernel
theorem dL_shift_8 : decode cL_shift 8 = .ok (.lastore, 1) := by decide +kernel
theorem dL_shift_9 : decode cL_shift 9 = .ok (.goto 6, 3) := by decide +kernel
theorem dL_shift_12 : decode cL_shift 12 = .ok (.astore_n 3, 1) := by decide +kernel
theorem dL_shift_13 : decode cL_shift 13 = .ok (.iconst 1, 1) := by decide +kernel
theorem dL_shift_14 : decode cL_shift 14 = .ok (.ireturn, 1) := by decide +kernel
theorem dL_shift_15 : decode cL_shift 15 = .ok (.iconst 0, 1) := by decide +kernel
theorem dL_shift_16 : decode cL_shift 16 = .ok (.ireturn, 1) := by decide +kernel
theorem dL_slip_0 : decode cL_slip 0 = .ok (.aload_n 2, 1) := by decide +kernel
theorem dL_slip_1 : decode cL_slip 1 = .ok (.iconst 0, 1) := by decide +kernel
theorem dL_slip_2 : decode cL_slip 2 = .ok (.aload_n 0, 1) := by decide +kernel
theorem dL_slip_3 : decode cL_slip 3 = .ok (.iload_n 1, 1) := by decide +kernel
theorem dL_slip_4 : decode cL_slip 4 = .ok (.invokevirtual 80, 3) := by decide +kernel
theorem dL_slip_7 : decode cL_slip 7 = .ok (.i2l, 1) := by decide +kernel
theorem dL_slip_8 : decode cL_slip 8 = .ok (.lastore, 1) := by decide +kernel
theorem dL_slip_9 : decode cL_slip 9 = .ok (.goto 6, 3) := by decide +kernel
theorem dL_slip_12 : decode cL_slip 12 = .ok (.astore_n 3, 1) := by decide +kernel
theorem dL_slip_13 : decode cL_slip 13 = .ok (.iconst 1, 1) := by decide +kernel
theorem dL_slip_14 : decode cL_slip 14 = .ok (.ireturn, 1) := by decide +kernel
theorem dL_slip_15 : decode cL_slip 15 = .ok (.iconst 0, 1) := by decide +kernel
theorem dL_slip_16 : decode cL_slip 16 = .ok (.ireturn, 1) := by decide +kernel
theorem dL_lags_0 : decode cL_lags 0 = .ok (.aload_n 2, 1) := by decide +kernel
theorem dL_lags_1 : decode cL_lags 1 = .ok (.iconst 0, 1) := by decide +kernel
theorem dL_lags_2 : decode cL_lags 2 = .ok (.aload_n 0, 1) := by decide +kernel
theorem dL_lags_3 : decode cL_lags 3 = .ok (.iload_n 1, 1) := by decide +kernel
theorem dL_lags_4 : decode cL_lags 4 = .ok (.invokevirtual 83, 3) := by decide +kernel
theorem dL_lags_7 : decode cL_lags 7 = .ok (.i2l, 1) := by decide +kernel
theorem dL_lags_8 : decode cL_lags 8 = .ok (.lastore, 1) := by decide +kernel
theorem dL_lags_9 : decode cL_lags 9 = .ok (.goto 6, 3) := by decide +kernel
theorem dL_lags_12 : decode cL_lags 12 = .ok (.astore_n 3, 1) := by decide +kernel
theorem dL_lags_13 : decode cL_lags 13 = .ok (.iconst 1, 1) := by decide +kernel
theorem dL_lags_14 : decode cL_lags 14 = .ok (.ireturn, 1) := by decide +kernel
theorem dL_lags_15 : decode cL_lags 15 = .ok (.iconst 0, 1) := by decide +kernel
theorem dL_lags_16 : decode cL_lags 16 = .ok (.ireturn, 1) := by decide +kernel
theorem dL_depth_0 : decode cL_depth 0 = .ok (.aload_n 3, 1) := by decide +kernel
theorem dL_depth_1 : decode cL_depth 1 = .ok (.iconst 0, 1) := by decide +kernel
theorem dL_depth_2 : decode cL_depth 2 = .ok (.aload_n 0, 1) := by decide +kernel
theorem dL_depth_3 : decode cL_depth 3 = .ok (.iload_n 1, 1) := by decide +kernel
theorem dL_depth_4 : decode cL_depth 4 = .ok (.iload_n 2, 1) := by decide +kernel
theorem dL_depth_5 : decode cL_depth 5 = .ok (.invokevirtual 86, 3) := by decide +kernel
theorem dL_depth_8 : decode cL_depth 8 = .ok (.i2l, 1) := by decide +kernel
theorem dL_depth_9 : decode cL_depth 9 = .ok (.lastore, 1) := by decide +kernel
theorem dL_depth_10 : decode cL_depth 10 = .ok (.goto 11, 3) := by decide +kernel
theorem dL_depth_13 : decode cL_depth 13 = .ok (.astore 4, 2) := by decide +kernel
theorem dL_depth_15 : decode cL_depth 15 = .ok (.iconst 1, 1) := by decide +kernel
theorem dL_depth_16 : decode cL_depth 16 = .ok (.ireturn, 1) := by decide +kernel
theorem dL_depth_17 : decode cL_depth 17 = .ok (.astore 4, 2) := by decide +kernel
theorem dL_depth_19 : decode cL_depth 19 = .ok (.iconst 2, 1) := by decide +kernel
theorem dL_depth_20 : decode cL_depth 20 = .ok (.ireturn, 1) := by decide +kernel
theorem dL_depth_21 : decode cL_depth 21 = .ok (.iconst 0, 1) := by decide +kernel
theorem dL_depth_22 : decode cL_depth 22 = .ok (.ireturn, 1) := by decide +kernel
theorem dL_shots_0 : decode cL_shots 0 = .ok (.aload_n 2, 1) := by decide +kernel
theorem dL_shots_1 : decode cL_shots 1 = .ok (.iconst 0, 1) := by decide +kernel
theorem dL_shots_2 : decode cL_shots 2 = .ok (.aload_n 0, 1) := by decide +kernel
theorem dL_shots_3 : decode cL_shots 3 = .ok (.iload_n 1, 1) := by decide +kernel
theorem dL_shots_4 : decode cL_shots 4 = .ok (.invokevirtual 89, 3) := by decide +kernel
theorem dL_shots_7 : decode cL_shots 7 = .ok (.i2l, 1) := by decide +kernel
theorem dL_shots_8 : decode cL_shots 8 = .ok (.lastore, 1) := by decide +kernel
theorem dL_shots_9 : decode cL_shots 9 = .ok (.goto 6, 3) := by decide +kernel
theorem dL_shots_12 : decode cL_shots 12 = .ok (.astore_n 3, 1) := by decide +kernel
theorem dL_shots_13 : decode cL_shots 13 = .ok (.iconst 1, 1) := by decide +kernel
theorem dL_shots_14 : decode cL_shots 14 = .ok (.ireturn, 1) := by decide +kernel
theorem dL_shots_15 : decode cL_shots 15 = .ok (.iconst 0, 1) := by decide +kernel
theorem dL_shots_16 : decode cL_shots 16 = .ok (.ireturn, 1) := by decide +kernel
theorem dL_quickest_0 : decode cL_quickest 0 = .ok (.aload_n 2, 1) := by decide +kernel
theorem dL_quickest_1 : decode cL_quickest 1 = .ok (.iconst 0, 1) := by decide +kernel
theorem dL_quickest_2 : decode cL_quickest 2 = .ok (.aload_n 0, 1) := by decide +kernel
theorem dL_quickest_3 : decode cL_quickest 3 = .ok (.iload_n 1, 1) := by decide +kernel
theorem dL_quickest_4 : decode cL_quickest 4 = .ok (.invokevirtual 92, 3) := by decide +kernel
theorem dL_quickest_7 : decode cL_quickest 7 = .ok (.i2l, 1) := by decide +kernel
theorem dL_quickest_8 : decode cL_quickest 8 = .ok (.lastore, 1) := by decide +kernel
theorem dL_quickest_9 : decode cL_quickest 9 = .ok (.goto 6, 3) := by decide +kernel
theorem dL_quickest_12 : decode cL_quickest 12 = .ok (.astore_n 3, 1) := by decide +kernel
theorem dL_quickest_13 : decode cL_quickest 13 = .ok (.iconst 1, 1) := by decide +kernel
theorem dL_quickest_14 : decode cL_quickest 14 = .ok (.ireturn, 1) := by decide +kernel
theorem dL_quickest_15 : decode cL_quickest 15 = .ok (.iconst 0, 1) := by decide +kernel
theorem dL_quickest_16 : decode cL_quickest 16 = .ok (.ireturn, 1) := by decide +kernel
abbrev M_La_scene : xM := (yL_scene, cL_scene, 4, some .int, [(0, 9, 12, 13)])
theorem K_RL_7 : x_KV RL 7 M_RH_scene 1 := ⟨⟨(List.mem_append_right _ (List.mem_of_getElem? (i := 540) (by decide +kernel))), (List.mem_append_right _ (List.mem_of_getElem? (i := 543) (by decide +kernel))), (List.mem_append_right _ (List.mem_of_getElem? (i := 1) (by decide +kernel))), ⟨by decide +kernel, by decide +kernel⟩, by decide +kernel⟩, (List.mem_append_right _ (List.mem_of_getElem? (i := 541) (by decide +kernel))), (List.mem_append_right _ (List.mem_of_getElem? (i := 542) (by decide +kernel)))⟩
theorem KHd_scene_1 : x_KHd RL M_La_scene.2.2.2.2 4 1 12 := ⟨[], _, _, rfl, (fun _ h => (by cases h)), by decide, by decide, (List.mem_append_right _ (List.mem_of_getElem? (i := 539) (by decide +kernel))), (List.mem_append_right _ (List.mem_of_getElem? (i := 546) (by decide +kernel))), rfl⟩
abbrev M_La_count : xM := (yL_count, cL_count, 4, some .int, [(0, 9, 12, 18)])
theorem K_RL_15 : x_KV RL 15 M_RH_count 1 := ⟨⟨(List.mem_append_right _ (List.mem_of_getElem? (i := 877) (by decide +kernel))), (List.mem_append_right _ (List.mem_of_getElem? (i := 880) (by decide +kernel))), (List.mem_append_right _ (List.mem_of_getElem? (i := 1) (by decide +kernel))), ⟨by decide +kernel, by decide +kernel⟩, by decide +kernel⟩, (List.mem_append_right _ (List.mem_of_getElem? (i := 878) (by decide +kernel))), (List.mem_append_right _ (List.mem_of_getElem? (i := 879) (by decide +kernel)))⟩
theorem KHd_count_2 : x_KHd RL M_La_count.2.2.2.2 4 2 12 := ⟨[], _, _, rfl, (fun _ h => (by cases h)), by decide, by decide, (List.mem_append_right _ (List.mem_of_getElem? (i := 876) (by decide +kernel))), (List.mem_append_right _ (List.mem_of_getElem? (i := 883) (by decide +kernel))), rfl⟩
abbrev M_La_mark : xM := (yL_mark, cL_mark, 4, some .int, [(0, 9, 12, 18)])
theorem K_RL_20 : x_KV RL 20 M_RH_mark 1 := ⟨⟨(List.mem_append_right _ (List.mem_of_getElem? (i := 900) (by decide +kernel))), (List.mem_append_right _ (List.mem_of_getElem? (i := 903) (by decide +kernel))), (List.mem_append_right _ (List.mem_of_getElem? (i := 1) (by decide +kernel))), ⟨by decide +kernel, by decide +kernel⟩, by decide +kernel⟩, (List.mem_append_right _ (List.mem_of_getElem? (i := 901) (by decide +kernel))), (List.mem_append_right _ (List.mem_of_getElem? (i := 902) (by decide +kernel)))⟩
theorem KHd_mark_2 : x_KHd RL M_La_mark.2.2.2.2 4 2 12 := ⟨[], _, _, rfl, (fun _ h => (by cases h)), by decide, by decide, (List.mem_append_right _ (List.mem_of_getElem? (i := 876) (by decide +kernel))), (List.mem_append_right _ (List.mem_of_getElem? (i := 883) (by decide +kernel))), rfl⟩
abbrev M_La_inches : xM := (yL_inches, cL_inches, 5, some .int, [(0, 10, 13, 18)])
theorem K_RL_23 : x_KV RL 23 M_RH_inches 2 := ⟨⟨(List.mem_append_right _ (List.mem_of_getElem? (i := 912) (by decide +kernel))), (List.mem_append_right _ (List.mem_of_getElem? (i := 915) (by decide +kernel))), (List.mem_append_right _ (List.mem_of_getElem? (i := 1) (by decide +kernel))), ⟨by decide +kernel, by decide +kernel⟩, by decide +kernel⟩, (List.mem_append_right _ (List.mem_of_getElem? (i := 913) (by decide +kernel))), (List.mem_append_right _ (List.mem_of_getElem? (i := 914) (by decide +kernel)))⟩
theorem KHd_inches_2 : x_KHd RL M_La_inches.2.2.2.2 5 2 13 := ⟨[], _, _, rfl, (fun _ h => (by cases h)), by decide, by decide, (List.mem_append_right _ (List.mem_of_getElem? (i := 876) (by decide +kernel))), (List.mem_append_right _ (List.mem_of_getElem? (i := 883) (by decide +kernel))), rfl⟩
abbrev M_La_turn : xM := (yL_turn, cL_turn, 4, some .int, [(0, 9, 12, 13)])
theorem K_RL_27 : x_KV RL 27 M_RH_turn 1 := ⟨⟨(List.mem_append_right _ (List.mem_of_getElem? (i := 924) (by decide +kernel))), (List.mem_append_right _ (List.mem_of_getElem? (i := 927) (by decide +kernel))), (List.mem_append_right _ (List.mem_of_getElem? (i := 1) (by decide +kernel))), ⟨by decide +kernel, by decide +kernel⟩, by decide +kernel⟩, (List.mem_append_right _ (List.mem_of_getElem? (i := 925) (by decide +kernel))), (List.mem_append_right _ (List.mem_of_getElem? (i := 926) (by decide +kernel)))⟩
theorem KHd_turn_1 : x_KHd RL M_La_turn.2.2.2.2 4 1 12 := ⟨[], _, _, rfl, (fun _ h => (by cases h)), by decide, by decide, (List.mem_append_right _ (List.mem_of_getElem? (i := 539) (by decide +kernel))), (List.mem_append_right _ (List.mem_of_getElem? (i := 546) (by decide +kernel))), rfl⟩
abbrev M_La_tenth : xM := (yL_tenth, cL_tenth, 5, some .int, [(0, 10, 13, 18)])
theorem K_RL_30 : x_KV RL 30 M_RH_tenth 2 := ⟨⟨(List.mem_append_right _ (List.mem_of_getElem? (i := 932) (by decide +kernel))), (List.mem_append_right _ (List.mem_of_getElem? (i := 935) (by decide +kernel))), (List.mem_append_right _ (List.mem_of_getElem? (i := 1) (by decide +kernel))), ⟨by decide +kernel, by decide +kernel⟩, by decide +kernel⟩, (List.mem_append_right _ (List.mem_of_getElem? (i := 933) (by decide +kernel))), (List.mem_append_right _ (List.mem_of_getElem? (i := 934) (by decide +kernel)))⟩
theorem KHd_tenth_2 : x_KHd RL M_La_tenth.2.2.2.2 5 2 13 := ⟨[], _, _, rfl, (fun _ h => (by cases h)), by decide, by decide, (List.mem_append_right _ (List.mem_of_getElem? (i := 876) (by decide +kernel))), (List.mem_append_right _ (List.mem_of_getElem? (i := 883) (by decide +kernel))), rfl⟩
abbrev M_La_all : xM := (yL_all, cL_all, 4, some .int, [(0, 9, 12, 18)])
theorem K_RL_33 : x_KV RL 33 M_RH_all 1 := ⟨⟨(List.mem_append_right _ (List.mem_of_getElem? (i := 951) (by decide +kernel))), (List.mem_append_right _ (List.mem_of_getElem? (i := 954) (by decide +kernel))), (List.mem_append_right _ (List.mem_of_getElem? (i := 1) (by decide +kernel))), ⟨by decide +kernel, by decide +kernel⟩, by decide +kernel⟩, (List.mem_append_right _ (List.mem_of_getElem? (i := 952) (by decide +kernel))), (List.mem_append_right _ (List.mem_of_getElem? (i := 953) (by decide +kernel)))⟩
theorem KHd_all_2 : x_KHd RL M_La_all.2.2.2.2 4 2 12 := ⟨[], _, _, rfl, (fun _ h => (by cases h)), by decide, by decide, (List.mem_append_right _ (List.mem_of_getElem? (i := 876) (by decide +kernel))), (List.mem_append_right _ (List.mem_of_getElem? (i := 883) (by decide +kernel))), rfl⟩
abbrev M_La_chalk : xM := (yL_chalk, cL_chalk, 5, some .int, [(0, 10, 13, 18)])
theorem K_RL_36 : x_KV RL 36 M_RH_chalk 2 := ⟨⟨(List.mem_append_right _ (List.mem_of_getElem? (i := 984) (by decide +kernel))), (List.mem_append_right _ (List.mem_of_getElem? (i := 987) (by decide +kernel))), (List.mem_append_right _ (List.mem_of_getElem? (i := 1) (by decide +kernel))), ⟨by decide +kernel, by decide +kernel⟩, by decide +kernel⟩, (List.mem_append_right _ (List.mem_of_getElem? (i := 985) (by decide +kernel))), (List.mem_append_right _ (List.mem_of_getElem? (i := 986) (by decide +kernel)))⟩
theorem KHd_chalk_2 : x_KHd RL M_La_chalk.2.2.2.2 5 2 13 := ⟨[], _, _, rfl, (fun _ h => (by cases h)), by decide, by decide, (List.mem_append_right _ (List.mem_of_getElem? (i := 876) (by decide +kernel))), (List.mem_append_right _ (List.mem_of_getElem? (i := 883) (by decide +kernel))), rfl⟩
abbrev M_La_best : xM := (yL_best, cL_best, 4, some .int, [(0, 9, 12, 18)])
theorem K_RL_39 : x_KV RL 39 M_RH_best 1 := ⟨⟨(List.mem_append_right _ (List.mem_of_getElem? (i := 992) (by decide +kernel))), (List.mem_append_right _ (List.mem_of_getElem? (i := 995) (by decide +kernel))), (List.mem_append_right _ (List.mem_of_getElem? (i := 1) (by decide +kernel))), ⟨by decide +kernel, by decide +kernel⟩, by decide +kernel⟩, (List.mem_append_right _ (List.mem_of_getElem? (i := 993) (by decide +kernel))), (List.mem_append_right _ (List.mem_of_getElem? (i := 994) (by decide +kernel)))⟩
theorem KHd_best_2 : x_KHd RL M_La_best.2.2.2.2 4 2 12 := ⟨[], _, _, rfl, (fun _ h => (by cases h)), by decide, by decide, (List.mem_append_right _ (List.mem_of_getElem? (i := 876) (by decide +kernel))), (List.mem_append_right _ (List.mem_of_getElem? (i := 883) (by decide +kernel))), rfl⟩
abbrev M_La_foretell : xM := (yL_foretell, cL_foretell, 4, some .int, [(0, 9, 12, 18)])
theorem K_RL_42 : x_KV RL 42 M_RH_foretell 1 := ⟨⟨(List.mem_append_right _ (List.mem_of_getElem? (i := 1000) (by decide +kernel))), (List.mem_append_right _ (List.mem_of_getElem? (i := 1003) (by decide +kernel))), (List.mem_append_right _ (List.mem_of_getElem? (i := 1) (by decide +kernel))), ⟨by decide +kernel, by decide +kernel⟩, by decide +kernel⟩, (List.mem_append_right _ (List.mem_of_getElem? (i := 1001) (by decide +kernel))), (List.mem_append_right _ (List.mem_of_getElem? (i := 1002) (by decide +kernel)))⟩
theorem KHd_foretell_2 : x_KHd RL M_La_foretell.2.2.2.2 4 2 12 := ⟨[], _, _, rfl, (fun _ h => (by cases h)), by decide, by decide, (List.mem_append_right _ (List.mem_of_getElem? (i := 876) (by decide +kernel))), (List.mem_append_right _ (List.mem_of_getElem? (i := 883) (by decide +kernel))), rfl⟩
abbrev M_La_holes : xM := (yL_holes, cL_holes, 4, some .int, [(0, 9, 12, 13)])
theorem K_RL_45 : x_KV RL 45 M_RH_holes 1 := ⟨⟨(List.mem_append_right _ (List.mem_of_getElem? (i := 1011) (by decide +kernel))), (List.mem_append_right _ (List.mem_of_getElem? (i := 1014) (by decide +kernel))), (List.mem_append_right _ (List.mem_of_getElem? (i := 1) (by decide +kernel))), ⟨by decide +kernel, by decide +kernel⟩, by decide +kernel⟩, (List.mem_append_right _ (List.mem_of_getElem? (i := 1012) (by decide +kernel))), (List.mem_append_right _ (List.mem_of_getElem? (i := 1013) (by decide +kernel)))⟩
theorem KHd_holes_1 : x_KHd RL M_La_holes.2.2.2.2 4 1 12 := ⟨[], _, _, rfl, (fun _ h => (by cases h)), by decide, by decide, (List.mem_append_right _ (List.mem_of_getElem? (i := 539) (by decide +kernel))), (List.mem_append_right _ (List.mem_of_getElem? (i := 546) (by decide +kernel))), rfl⟩
abbrev M_La_light : xM := (yL_light, cL_light, 5, some .int, [(0, 10, 13, 13)])
theorem K_RL_48 : x_KV RL 48 M_RH_light 2 := ⟨⟨(List.mem_append_right _ (List.mem_of_getElem? (i := 1019) (by decide +kernel))), (List.mem_append_right _ (List.mem_of_getElem? (i := 1022) (by decide +kernel))), (List.mem_append_right _ (List.mem_of_getElem? (i := 1) (by decide +kernel))), ⟨by decide +kernel, by decide +kernel⟩, by decide +kernel⟩, (List.mem_append_right _ (List.mem_of_getElem? (i := 1020) (by decide +kernel))), (List.mem_append_right _ (List.mem_of_getElem? (i := 1021) (by decide +kernel)))⟩
theorem KHd_light_1 : x_KHd RL M_La_light.2.2.2.2 5 1 13 := ⟨[], _, _, rfl, (fun _ h => (by cases h)), by decide, by decide, (List.mem_append_right _ (List.mem_of_getElem? (i := 539) (by decide +kernel))), (List.mem_append_right _ (List.mem_of_getElem? (i := 546) (by decide +kernel))), rfl⟩
abbrev M_La_marks : xM := (yL_marks, cL_marks, 4, some .int, [(0, 9, 12, 13)])
theorem K_RL_51 : x_KV RL 51 M_RH_marks 1 := ⟨⟨(List.mem_append_right _ (List.mem_of_getElem? (i := 1027) (by decide +kernel))), (List.mem_append_right _ (List.mem_of_getElem? (i := 1030) (by decide +kernel))), (List.mem_append_right _ (List.mem_of_getElem? (i := 1) (by decide +kernel))), ⟨by decide +kernel, by decide +kernel⟩, by decide +kernel⟩, (List.mem_append_right _ (List.mem_of_getElem? (i := 1028) (by decide +kernel))), (List.mem_append_right _ (List.mem_of_getElem? (i := 1029) (by decide +kernel)))⟩
theorem KHd_marks_1 : x_KHd RL M_La_marks.2.2.2.2 4 1 12 := ⟨[], _, _, rfl, (fun _ h => (by cases h)), by decide, by decide, (List.mem_append_right _ (List.mem_of_getElem? (i := 539) (by decide +kernel))), (List.mem_append_right _ (List.mem_of_getElem? (i := 546) (by decide +kernel))), rfl⟩
abbrev M_La_kept : xM := (yL_kept, cL_kept, 4, some .int, [(0, 9, 12, 18)])
theorem K_RL_54 : x_KV RL 54 M_RH_kept 1 := ⟨⟨(List.mem_append_right _ (List.mem_of_getElem? (i := 1064) (by decide +kernel))), (List.mem_append_right _ (List.mem_of_getElem? (i := 1067) (by decide +kernel))), (List.mem_append_right _ (List.mem_of_getElem? (i := 1) (by decide +kernel))), ⟨by decide +kernel, by decide +kernel⟩, by decide +kernel⟩, (List.mem_append_right _ (List.mem_of_getElem? (i := 1065) (by decide +kernel))), (List.mem_append_right _ (List.mem_of_getElem? (i := 1066) (by decide +kernel)))⟩
theorem KHd_kept_2 : x_KHd RL M_La_kept.2.2.2.2 4 2 12 := ⟨[], _, _, rfl, (fun _ h => (by cases h)), by decide, by decide, (List.mem_append_right _ (List.mem_of_getElem? (i := 876) (by decide +kernel))), (List.mem_append_right _ (List.mem_of_getElem? (i := 883) (by decide +kernel))), rfl⟩
abbrev M_La_takes : xM := (yL_takes, cL_takes, 8, some .int, [(0, 16, 19, 18), (0, 16, 23, 13)])
theorem K_RL_57 : x_KV RL 57 M_RH_takes 5 := ⟨⟨(List.mem_append_right _ (List.mem_of_getElem? (i := 1072) (by decide +kernel))), (List.mem_append_right _ (List.mem_of_getElem? (i := 1075) (by decide +kernel))), (List.mem_append_right _ (List.mem_of_getElem? (i := 1) (by decide +kernel))), ⟨by decide +kernel, by decide +kernel⟩, by decide +kernel⟩, (List.mem_append_right _ (List.mem_of_getElem? (i := 1073) (by decide +kernel))), (List.mem_append_right _ (List.mem_of_getElem? (i := 1074) (by decide +kernel)))⟩
theorem KHd_takes_2 : x_KHd RL M_La_takes.2.2.2.2 11 2 19 := ⟨[], _, _, rfl, (fun _ h => (by cases h)), by decide, by decide, (List.mem_append_right _ (List.mem_of_getElem? (i := 876) (by decide +kernel))), (List.mem_append_right _ (List.mem_of_getElem? (i := 883) (by decide +kernel))), rfl⟩
theorem KHd_takes_1 : x_KHd RL M_La_takes.2.2.2.2 11 1 23 := ⟨[_], _, _, rfl, (fun z hz => Or.inr (by rw [List.mem_singleton.mp hz]; exact ⟨by decide, "java/util/NoSuchElementException", (List.mem_append_right _ (List.mem_of_getElem? (i := 876) (by decide +kernel))), (List.mem_of_getElem? (i := 405) (by decide +kernel))⟩)), by decide, by decide, (List.mem_append_right _ (List.mem_of_getElem? (i := 539) (by decide +kernel))), (List.mem_append_right _ (List.mem_of_getElem? (i := 546) (by decide +kernel))), rfl⟩
abbrev M_La_see : xM := (yL_see, cL_see, 5, some .int, [(0, 10, 13, 18)])
theorem K_RL_61 : x_KV RL 61 M_RH_see 2 := ⟨⟨(List.mem_append_right _ (List.mem_of_getElem? (i := 1087) (by decide +kernel))), (List.mem_append_right _ (List.mem_of_getElem? (i := 1090) (by decide +kernel))), (List.mem_append_right _ (List.mem_of_getElem? (i := 1) (by decide +kernel))), ⟨by decide +kernel, by decide +kernel⟩, by decide +kernel⟩, (List.mem_append_right _ (List.mem_of_getElem? (i := 1088) (by decide +kernel))), (List.mem_append_right _ (List.mem_of_getElem? (i := 1089) (by decide +kernel)))⟩
theorem KHd_see_2 : x_KHd RL M_La_see.2.2.2.2 5 2 13 := ⟨[], _, _, rfl, (fun _ h => (by cases h)), by decide, by decide, (List.mem_append_right _ (List.mem_of_getElem? (i := 876) (by decide +kernel))), (List.mem_append_right _ (List.mem_of_getElem? (i := 883) (by decide +kernel))), rfl⟩
abbrev M_La_fits : xM := (yL_fits, cL_fits, 4, some .int, [(0, 9, 12, 18)])
theorem K_RL_65 : x_KV RL 65 M_RH_fits 1 := ⟨⟨(List.mem_append_right _ (List.mem_of_getElem? (i := 1099) (by decide +kernel))), (List.mem_append_right _ (List.mem_of_getElem? (i := 1102) (by decide +kernel))), (List.mem_append_right _ (List.mem_of_getElem? (i := 1) (by decide +kernel))), ⟨by decide +kernel, by decide +kernel⟩, by decide +kernel⟩, (List.mem_append_right _ (List.mem_of_getElem? (i := 1100) (by decide +kernel))), (List.mem_append_right _ (List.mem_of_getElem? (i := 1101) (by decide +kernel)))⟩
theorem KHd_fits_2 : x_KHd RL M_La_fits.2.2.2.2 4 2 12 := ⟨[], _, _, rfl, (fun _ h => (by cases h)), by decide, by decide, (List.mem_append_right _ (List.mem_of_getElem? (i := 876) (by decide +kernel))), (List.mem_append_right _ (List.mem_of_getElem? (i := 883) (by decide +kernel))), rfl⟩
abbrev M_La_next : xM := (yL_next, cL_next, 5, some .int, [(0, 10, 13, 18)])
theorem K_RL_68 : x_KV RL 68 M_RH_next 2 := ⟨⟨(List.mem_append_right _ (List.mem_of_getElem? (i := 1116) (by decide +kernel))), (List.mem_append_right _ (List.mem_of_getElem? (i := 1119) (by decide +kernel))), (List.mem_append_right _ (List.mem_of_getElem? (i := 1) (by decide +kernel))), ⟨by decide +kernel, by decide +kernel⟩, by decide +kernel⟩, (List.mem_append_right _ (List.mem_of_getElem? (i := 1117) (by decide +kernel))), (List.mem_append_right _ (List.mem_of_getElem? (i := 1118) (by decide +kernel)))⟩
theorem KHd_next_2 : x_KHd RL M_La_next.2.2.2.2 5 2 13 := ⟨[], _, _, rfl, (fun _ h => (by cases h)), by decide, by decide, (List.mem_append_right _ (List.mem_of_getElem? (i := 876) (by decide +kernel))), (List.mem_append_right _ (List.mem_of_getElem? (i := 883) (by decide +kernel))), rfl⟩
abbrev M_La_middle : xM := (yL_middle, cL_middle, 4, some .int, [(0, 9, 12, 18)])
theorem K_RL_71 : x_KV RL 71 M_RH_middle 1 := ⟨⟨(List.mem_append_right _ (List.mem_of_getElem? (i := 1134) (by decide +kernel))), (List.mem_append_right _ (List.mem_of_getElem? (i := 1137) (by decide +kernel))), (List.mem_append_right _ (List.mem_of_getElem? (i := 1) (by decide +kernel))), ⟨by decide +kernel, by decide +kernel⟩, by decide +kernel⟩, (List.mem_append_right _ (List.mem_of_getElem? (i := 1135) (by decide +kernel))), (List.mem_append_right _ (List.mem_of_getElem? (i := 1136) (by decide +kernel)))⟩
theorem KHd_middle_2 : x_KHd RL M_La_middle.2.2.2.2 4 2 12 := ⟨[], _, _, rfl, (fun _ h => (by cases h)), by decide, by decide, (List.mem_append_right _ (List.mem_of_getElem? (i := 876) (by decide +kernel))), (List.mem_append_right _ (List.mem_of_getElem? (i := 883) (by decide +kernel))), rfl⟩
abbrev M_La_runs : xM := (yL_runs, cL_runs, 5, some .int, [(0, 10, 13, 18)])
theorem K_RL_74 : x_KV RL 74 M_RH_runs 2 := ⟨⟨(List.mem_append_right _ (List.mem_of_getElem? (i := 1152) (by decide +kernel))), (List.mem_append_right _ (List.mem_of_getElem? (i := 1155) (by decide +kernel))), (List.mem_append_right _ (List.mem_of_getElem? (i := 1) (by decide +kernel))), ⟨by decide +kernel, by decide +kernel⟩, by decide +kernel⟩, (List.mem_append_right _ (List.mem_of_getElem? (i := 1153) (by decide +kernel))), (List.mem_append_right _ (List.mem_of_getElem? (i := 1154) (by decide +kernel)))⟩
theorem KHd_runs_2 : x_KHd RL M_La_runs.2.2.2.2 5 2 13 := ⟨[], _, _, rfl, (fun _ h => (by cases h)), by decide, by decide, (List.mem_append_right _ (List.mem_of_getElem? (i := 876) (by decide +kernel))), (List.mem_append_right _ (List.mem_of_getElem? (i := 883) (by decide +kernel))), rfl⟩
abbrev M_La_shift : xM := (yL_shift, cL_shift, 4, some .int, [(0, 9, 12, 18)])
theorem K_RL_77 : x_KV RL 77 M_RH_shift 1 := ⟨⟨(List.mem_append_right _ (List.mem_of_getElem? (i := 1165) (by decide +kernel))), (List.mem_append_right _ (List.mem_of_getElem? (i := 1168) (by decide +kernel))), (List.mem_append_right _ (List.mem_of_getElem? (i := 1) (by decide +kernel))), ⟨by decide +kernel, by decide +kernel⟩, by decide +kernel⟩, (List.mem_append_right _ (List.mem_of_getElem? (i := 1166) (by decide +kernel))), (List.mem_append_right _ (List.mem_of_getElem? (i := 1167) (by decide +kernel)))⟩
theorem KHd_shift_2 : x_KHd RL M_La_shift.2.2.2.2 4 2 12 := ⟨[], _, _, rfl, (fun _ h => (by cases h)), by decide, by decide, (List.mem_append_right _ (List.mem_of_getElem? (i := 876) (by decide +kernel))), (List.mem_append_right _ (List.mem_of_getElem? (i := 883) (by decide +kernel))), rfl⟩
abbrev M_La_slip : xM := (yL_slip, cL_slip, 4, some .int, [(0, 9, 12, 18)])
theorem K_RL_80 : x_KV RL 80 M_RH_slip 1 := ⟨⟨(List.mem_append_right _ (List.mem_of_getElem? (i := 1173) (by decide +kernel))), (List.mem_append_right _ (List.mem_of_getElem? (i := 1176) (by decide +kernel))), (List.mem_append_right _ (List.mem_of_getElem? (i := 1) (by decide +kernel))), ⟨by decide +kernel, by decide +kernel⟩, by decide +kernel⟩, (List.mem_append_right _ (List.mem_of_getElem? (i := 1174) (by decide +kernel))), (List.mem_append_right _ (List.mem_of_getElem? (i := 1175) (by decide +kernel)))⟩
theorem KHd_slip_2 : x_KHd RL M_La_slip.2.2.2.2 4 2 12 := ⟨[], _, _, rfl, (fun _ h => (by cases h)), by decide, by decide, (List.mem_append_right _ (List.mem_of_getElem? (i := 876) (by decide +kernel))), (List.mem_append_right _ (List.mem_of_getElem? (i := 883) (by decide +kernel))), rfl⟩
abbrev M_La_lags : xM := (yL_lags, cL_lags, 4, some .int, [(0, 9, 12, 18)])
theorem K_RL_83 : x_KV RL 83 M_RH_lags 1 := ⟨⟨(List.mem_append_right _ (List.mem_of_getElem? (i := 1181) (by decide +kernel))), (List.mem_append_right _ (List.mem_of_getElem? (i := 1184) (by decide +kernel))), (List.mem_append_right _ (List.mem_of_getElem? (i := 1) (by decide +kernel))), ⟨by decide +kernel, by decide +kernel⟩, by decide +kernel⟩, (List.mem_append_right _ (List.mem_of_getElem? (i := 1182) (by decide +kernel))), (List.mem_append_right _ (List.mem_of_getElem? (i := 1183) (by decide +kernel)))⟩
theorem KHd_lags_2 : x_KHd RL M_La_lags.2.2.2.2 4 2 12 := ⟨[], _, _, rfl, (fun _ h => (by cases h)), by decide, by decide, (List.mem_append_right _ (List.mem_of_getElem? (i := 876) (by decide +kernel))), (List.mem_append_right _ (List.mem_of_getElem? (i := 883) (by decide +kernel))), rfl⟩
abbrev M_La_depth : xM := (yL_depth, cL_depth, 5, some .int, [(0, 10, 13, 18), (0, 10, 17, 13)])
theorem K_RL_86 : x_KV RL 86 M_RH_depth 2 := ⟨⟨(List.mem_append_right _ (List.mem_of_getElem? (i := 1189) (by decide +kernel))), (List.mem_append_right _ (List.mem_of_getElem? (i := 1192) (by decide +kernel))), (List.mem_append_right _ (List.mem_of_getElem? (i := 1) (by decide +kernel))), ⟨by decide +kernel, by decide +kernel⟩, by decide +kernel⟩, (List.mem_append_right _ (List.mem_of_getElem? (i := 1190) (by decide +kernel))), (List.mem_append_right _ (List.mem_of_getElem? (i := 1191) (by decide +kernel)))⟩
theorem KHd_depth_2 : x_KHd RL M_La_depth.2.2.2.2 5 2 13 := ⟨[], _, _, rfl, (fun _ h => (by cases h)), by decide, by decide, (List.mem_append_right _ (List.mem_of_getElem? (i := 876) (by decide +kernel))), (List.mem_append_right _ (List.mem_of_getElem? (i := 883) (by decide +kernel))), rfl⟩
theorem KHd_depth_1 : x_KHd RL M_La_depth.2.2.2.2 5 1 17 := ⟨[_], _, _, rfl, (fun z hz => Or.inr (by rw [List.mem_singleton.mp hz]; exact ⟨by decide, "java/util/NoSuchElementException", (List.mem_append_right _ (List.mem_of_getElem? (i := 876) (by decide +kernel))), (List.mem_of_getElem? (i := 405) (by decide +kernel))⟩)), by decide, by decide, (List.mem_append_right _ (List.mem_of_getElem? (i := 539) (by decide +kernel))), (List.mem_append_right _ (List.mem_of_getElem? (i := 546) (by decide +kernel))), rfl⟩
abbrev M_La_shots : xM := (yL_shots, cL_shots, 4, some .int, [(0, 9, 12, 13)])
theorem K_RL_89 : x_KV RL 89 M_RH_shots 1 := ⟨⟨(List.mem_append_right _ (List.mem_of_getElem? (i := 1198) (by decide +kernel))), (List.mem_append_right _ (List.mem_of_getElem? (i := 1201) (by decide +kernel))), (List.mem_append_right _ (List.mem_of_getElem? (i := 1) (by decide +kernel))), ⟨by decide +kernel, by decide +kernel⟩, by decide +kernel⟩, (List.mem_append_right _ (List.mem_of_getElem? (i := 1199) (by decide +kernel))), (List.mem_append_right _ (List.mem_of_getElem? (i := 1200) (by decide +kernel)))⟩
theorem KHd_shots_1 : x_KHd RL M_La_shots.2.2.2.2 4 1 12 := ⟨[], _, _, rfl, (fun _ h => (by cases h)), by decide, by decide, (List.mem_append_right _ (List.mem_of_getElem? (i := 539) (by decide +kernel))), (List.mem_append_right _ (List.mem_of_getElem? (i := 546) (by decide +kernel))), rfl⟩
abbrev M_La_quickest : xM := (yL_quickest, cL_quickest, 4, some .int, [(0, 9, 12, 18)])
theorem K_RL_92 : x_KV RL 92 M_RH_quickest 1 := ⟨⟨(List.mem_append_right _ (List.mem_of_getElem? (i := 1205) (by decide +kernel))), (List.mem_append_right _ (List.mem_of_getElem? (i := 1208) (by decide +kernel))), (List.mem_append_right _ (List.mem_of_getElem? (i := 1) (by decide +kernel))), ⟨by decide +kernel, by decide +kernel⟩, by decide +kernel⟩, (List.mem_append_right _ (List.mem_of_getElem? (i := 1206) (by decide +kernel))), (List.mem_append_right _ (List.mem_of_getElem? (i := 1207) (by decide +kernel)))⟩
theorem KHd_quickest_2 : x_KHd RL M_La_quickest.2.2.2.2 4 2 12 := ⟨[], _, _, rfl, (fun _ h => (by cases h)), by decide, by decide, (List.mem_append_right _ (List.mem_of_getElem? (i := 876) (by decide +kernel))), (List.mem_append_right _ (List.mem_of_getElem? (i := 883) (by decide +kernel))), rfl⟩
def w_scene (v1 : Int32) (σ : xS) : Option (Int32 × xS) :=
  (f_RH_scene_0 v1 σ).bind fun q =>
  match q.1 with
  | .inl v => some ((0 : Int32), x_pL q.2 96 0 v.toInt64)
  | .inr k => if k = 1 then some ((1 : Int32), q.2) else none
set_option maxHeartbeats 4000000 in
set_option maxRecDepth 100000 in
theorem cw_scene {l : Launch} {s0 : State} {a0 : Array Value} {D : va_G} {cA : Nat → ClassId} {sp : Nat → Nat} (E : x_En CL l s0 a0 D cA sp) (S : x_Sw s0 sp) (v1 : Int32) {σ : xS} {r : Int32} {σ1 : xS} (h : w_scene v1 σ = some (r, σ1)) : x_CH l s0 D cA sp 77 M_La_scene [.ref 0, .int v1, .ref 96] σ (some (.int r)) σ1 := by
  unfold w_scene at h
  obtain ⟨⟨o, σ2⟩, hq, h⟩ := x_bind h
  try dsimp only at h
  refine x_enterH [some (.ref 0), some (.int v1), some (.ref 96), none] rfl (Nat.le_of_ble_eq_true rfl) (by decide +kernel) ?_
  refine x_aload_n 1 rfl 2 dL_scene_0 rfl rfl ?_
  refine x_iconst 2 rfl (v := 0) dL_scene_1 (by decide) ?_
  refine x_aload_n 3 rfl 0 dL_scene_2 rfl rfl ?_
  refine x_iload_n 4 rfl 1 dL_scene_3 rfl rfl ?_
  refine x_callOX (bc := 0) (bs := 0) E x_QH.cl (as := [.int v1]) (rest := [.int 0, .ref 96]) dL_scene_4 K_RL_7 ⟨(Nat.le_of_ble_eq_true rfl), (Nat.le_of_ble_eq_true rfl)⟩ sh_0 (by decide) rfl rfl rfl (Nat.le_of_ble_eq_true rfl) rfl rfl (c_RH_scene_0 E S v1 hq) 7 rfl (fun v hv => ?_) (fun k hk => ?_)
  · cases o with
    | inr k => cases hv
    | inl a =>
      cases hv
      try dsimp only at h
      cases h
      refine x_i2l 8 rfl dL_scene_7 ?_
      refine x_last E dL_scene_8 sh_96 0 (by decide) (by decide) 9 rfl ?_
      refine x_goto 15 dL_scene_9 (by decide) ?_
      refine x_iconst 16 rfl (v := 0) dL_scene_15 (by decide) ?_
      exact x_toH (x_iret dL_scene_16 rfl rfl rfl)
  · cases o with
    | inl a => cases hk
    | inr k2 =>
      cases hk
      try dsimp only at h
      obtain ⟨hc9, h⟩ := x_ift h
      subst hc9
      cases h
      refine ⟨12, 3, 1, KHd_scene_1, Or.inl ⟨3, dL_scene_12, rfl, rfl⟩, by decide, ?_⟩
      refine x_iconst 14 rfl (v := 1) dL_scene_13 (by decide) ?_
      exact x_toH (x_iret dL_scene_14 rfl rfl rfl)
def w_count (v1 : Int32) (σ : xS) : Option (Int32 × xS) :=
  (f_RH_count_0 v1 σ).bind fun q =>
  match q.1 with
  | .inl v => some ((0 : Int32), x_pL q.2 96 0 v.toInt64)
  | .inr k => if k = 2 then some ((1 : Int32), q.2) else none
set_option maxHeartbeats 4000000 in
set_option maxRecDepth 100000 in
theorem cw_count {l : Launch} {s0 : State} {a0 : Array Value} {D : va_G} {cA : Nat → ClassId} {sp : Nat → Nat} (E : x_En CL l s0 a0 D cA sp) (v1 : Int32) {σ : xS} {r : Int32} {σ1 : xS} (h : w_count v1 σ = some (r, σ1)) : x_CH l s0 D cA sp 1 M_La_count [.ref 0, .int v1, .ref 96] σ (some (.int r)) σ1 := by
  unfold w_count at h
  obtain ⟨⟨o, σ2⟩, hq, h⟩ := x_bind h
  try dsimp only at h
  refine x_enterH [some (.ref 0), some (.int v1), some (.ref 96), none] rfl (Nat.le_of_ble_eq_true rfl) (by decide +kernel) ?_
  refine x_aload_n 1 rfl 2 dL_count_0 rfl rfl ?_
  refine x_iconst 2 rfl (v := 0) dL_count_1 (by decide) ?_
  refine x_aload_n 3 rfl 0 dL_count_2 rfl rfl ?_
  refine x_iload_n 4 rfl 1 dL_count_3 rfl rfl ?_
  refine x_callOC (bc := 0) (bs := 0) E (as := [.int v1]) (rest := [.int 0, .ref 96]) dL_count_4 K_RL_15 ⟨(Nat.le_of_ble_eq_true rfl), (Nat.le_of_ble_eq_true rfl)⟩ sh_0 (by decide) rfl rfl rfl (Nat.le_of_ble_eq_true rfl) (c_RH_count_0 E v1 hq) 7 rfl (fun v hv => ?_) (fun k hk => ?_)
  · cases o with
    | inr k => cases hv
    | inl a =>
      cases hv
      try dsimp only at h
      cases h
      refine x_i2l 8 rfl dL_count_7 ?_
      refine x_last E dL_count_8 sh_96 0 (by decide) (by decide) 9 rfl ?_
      refine x_goto 15 dL_count_9 (by decide) ?_
      refine x_iconst 16 rfl (v := 0) dL_count_15 (by decide) ?_
      exact x_toH (x_iret dL_count_16 rfl rfl rfl)
  · cases o with
    | inl a => cases hk
    | inr k2 =>
      cases hk
      try dsimp only at h
      obtain ⟨hc9, h⟩ := x_ift h
      subst hc9
      cases h
      refine ⟨12, 3, 1, KHd_count_2, Or.inl ⟨3, dL_count_12, rfl, rfl⟩, by decide, ?_⟩
      refine x_iconst 14 rfl (v := 1) dL_count_13 (by decide) ?_
      exact x_toH (x_iret dL_count_14 rfl rfl rfl)
def w_mark (v1 : Int32) (σ : xS) : Option (Int32 × xS) :=
  (f_RH_mark_0 v1 σ).bind fun q =>
  match q.1 with
  | .inl v => some ((0 : Int32), x_pL q.2 96 0 v.toInt64)
  | .inr k => if k = 2 then some ((1 : Int32), q.2) else none
set_option maxHeartbeats 4000000 in
set_option maxRecDepth 100000 in
theorem cw_mark {l : Launch} {s0 : State} {a0 : Array Value} {D : va_G} {cA : Nat → ClassId} {sp : Nat → Nat} (E : x_En CL l s0 a0 D cA sp) (v1 : Int32) {σ : xS} {r : Int32} {σ1 : xS} (h : w_mark v1 σ = some (r, σ1)) : x_CH l s0 D cA sp 2 M_La_mark [.ref 0, .int v1, .ref 96] σ (some (.int r)) σ1 := by
  unfold w_mark at h
  obtain ⟨⟨o, σ2⟩, hq, h⟩ := x_bind h
  try dsimp only at h
  refine x_enterH [some (.ref 0), some (.int v1), some (.ref 96), none] rfl (Nat.le_of_ble_eq_true rfl) (by decide +kernel) ?_
  refine x_aload_n 1 rfl 2 dL_mark_0 rfl rfl ?_
  refine x_iconst 2 rfl (v := 0) dL_mark_1 (by decide) ?_
  refine x_aload_n 3 rfl 0 dL_mark_2 rfl rfl ?_
  refine x_iload_n 4 rfl 1 dL_mark_3 rfl rfl ?_
  refine x_callOC (bc := 0) (bs := 0) E (as := [.int v1]) (rest := [.int 0, .ref 96]) dL_mark_4 K_RL_20 ⟨(Nat.le_of_ble_eq_true rfl), (Nat.le_of_ble_eq_true rfl)⟩ sh_0 (by decide) rfl rfl rfl (Nat.le_of_ble_eq_true rfl) (c_RH_mark_0 E v1 hq) 7 rfl (fun v hv => ?_) (fun k hk => ?_)
  · cases o with
    | inr k => cases hv
    | inl a =>
      cases hv
      try dsimp only at h
      cases h
      refine x_i2l 8 rfl dL_mark_7 ?_
      refine x_last E dL_mark_8 sh_96 0 (by decide) (by decide) 9 rfl ?_
      refine x_goto 15 dL_mark_9 (by decide) ?_
      refine x_iconst 16 rfl (v := 0) dL_mark_15 (by decide) ?_
      exact x_toH (x_iret dL_mark_16 rfl rfl rfl)
  · cases o with
    | inl a => cases hk
    | inr k2 =>
      cases hk
      try dsimp only at h
      obtain ⟨hc9, h⟩ := x_ift h
      subst hc9
      cases h
      refine ⟨12, 3, 1, KHd_mark_2, Or.inl ⟨3, dL_mark_12, rfl, rfl⟩, by decide, ?_⟩
      refine x_iconst 14 rfl (v := 1) dL_mark_13 (by decide) ?_
      exact x_toH (x_iret dL_mark_14 rfl rfl rfl)
def w_inches (v1 : Int32) (v2 : Int32) (σ : xS) : Option (Int32 × xS) :=
  (f_RH_inches_0 v1 v2 σ).bind fun q =>
  match q.1 with
  | .inl v => some ((0 : Int32), x_pL q.2 96 0 v.toInt64)
  | .inr k => if k = 2 then some ((1 : Int32), q.2) else none
set_option maxHeartbeats 4000000 in
set_option maxRecDepth 100000 in
theorem cw_inches {l : Launch} {s0 : State} {a0 : Array Value} {D : va_G} {cA : Nat → ClassId} {sp : Nat → Nat} (E : x_En CL l s0 a0 D cA sp) (v1 : Int32) (v2 : Int32) {σ : xS} {r : Int32} {σ1 : xS} (h : w_inches v1 v2 σ = some (r, σ1)) : x_CH l s0 D cA sp 3 M_La_inches [.ref 0, .int v1, .int v2, .ref 96] σ (some (.int r)) σ1 := by
  unfold w_inches at h
  obtain ⟨⟨o, σ2⟩, hq, h⟩ := x_bind h
  try dsimp only at h
  refine x_enterH [some (.ref 0), some (.int v1), some (.int v2), some (.ref 96), none] rfl (Nat.le_of_ble_eq_true rfl) (by decide +kernel) ?_
  refine x_aload_n 1 rfl 3 dL_inches_0 rfl rfl ?_
  refine x_iconst 2 rfl (v := 0) dL_inches_1 (by decide) ?_
  refine x_aload_n 3 rfl 0 dL_inches_2 rfl rfl ?_
  refine x_iload_n 4 rfl 1 dL_inches_3 rfl rfl ?_
  refine x_iload_n 5 rfl 2 dL_inches_4 rfl rfl ?_
  refine x_callOC (bc := 0) (bs := 0) E (as := [.int v1, .int v2]) (rest := [.int 0, .ref 96]) dL_inches_5 K_RL_23 ⟨(Nat.le_of_ble_eq_true rfl), (Nat.le_of_ble_eq_true rfl)⟩ sh_0 (by decide) rfl rfl rfl (Nat.le_of_ble_eq_true rfl) (c_RH_inches_0 E v1 v2 hq) 8 rfl (fun v hv => ?_) (fun k hk => ?_)
  · cases o with
    | inr k => cases hv
    | inl a =>
      cases hv
      try dsimp only at h
      cases h
      refine x_i2l 9 rfl dL_inches_8 ?_
      refine x_last E dL_inches_9 sh_96 0 (by decide) (by decide) 10 rfl ?_
      refine x_goto 17 dL_inches_10 (by decide) ?_
      refine x_iconst 18 rfl (v := 0) dL_inches_17 (by decide) ?_
      exact x_toH (x_iret dL_inches_18 rfl rfl rfl)
  · cases o with
    | inl a => cases hk
    | inr k2 =>
      cases hk
      try dsimp only at h
      obtain ⟨hc9, h⟩ := x_ift h
      subst hc9
      cases h
      refine ⟨13, 4, 2, KHd_inches_2, Or.inr ⟨dL_inches_13, rfl⟩, by decide, ?_⟩
      refine x_iconst 16 rfl (v := 1) dL_inches_15 (by decide) ?_
      exact x_toH (x_iret dL_inches_16 rfl rfl rfl)
def w_turn (v1 : Int32) (σ : xS) : Option (Int32 × xS) :=
  (f_RH_turn_0 v1 σ).bind fun q =>
  match q.1 with
  | .inl v => some ((0 : Int32), x_pL q.2 96 0 v.toInt64)
  | .inr k => if k = 1 then some ((1 : Int32), q.2) else none
set_option maxHeartbeats 4000000 in
set_option maxRecDepth 100000 in
theorem cw_turn {l : Launch} {s0 : State} {a0 : Array Value} {D : va_G} {cA : Nat → ClassId} {sp : Nat → Nat} (E : x_En CL l s0 a0 D cA sp) (v1 : Int32) {σ : xS} {r : Int32} {σ1 : xS} (h : w_turn v1 σ = some (r, σ1)) : x_CH l s0 D cA sp 2 M_La_turn [.ref 0, .int v1, .ref 96] σ (some (.int r)) σ1 := by
  unfold w_turn at h
  obtain ⟨⟨o, σ2⟩, hq, h⟩ := x_bind h
  try dsimp only at h
  refine x_enterH [some (.ref 0), some (.int v1), some (.ref 96), none] rfl (Nat.le_of_ble_eq_true rfl) (by decide +kernel) ?_
  refine x_aload_n 1 rfl 2 dL_turn_0 rfl rfl ?_
  refine x_iconst 2 rfl (v := 0) dL_turn_1 (by decide) ?_
  refine x_aload_n 3 rfl 0 dL_turn_2 rfl rfl ?_
  refine x_iload_n 4 rfl 1 dL_turn_3 rfl rfl ?_
  refine x_callOC (bc := 0) (bs := 0) E (as := [.int v1]) (rest := [.int 0, .ref 96]) dL_turn_4 K_RL_27 ⟨(Nat.le_of_ble_eq_true rfl), (Nat.le_of_ble_eq_true rfl)⟩ sh_0 (by decide) rfl rfl rfl (Nat.le_of_ble_eq_true rfl) (c_RH_turn_0 E v1 hq) 7 rfl (fun v hv => ?_) (fun k hk => ?_)
  · cases o with
    | inr k => cases hv
    | inl a =>
      cases hv
      try dsimp only at h
      cases h
      refine x_i2l 8 rfl dL_turn_7 ?_
      refine x_last E dL_turn_8 sh_96 0 (by decide) (by decide) 9 rfl ?_
      refine x_goto 15 dL_turn_9 (by decide) ?_
      refine x_iconst 16 rfl (v := 0) dL_turn_15 (by decide) ?_
      exact x_toH (x_iret dL_turn_16 rfl rfl rfl)
  · cases o with
    | inl a => cases hk
    | inr k2 =>
      cases hk
      try dsimp only at h
      obtain ⟨hc9, h⟩ := x_ift h
      subst hc9
      cases h
      refine ⟨12, 3, 1, KHd_turn_1, Or.inl ⟨3, dL_turn_12, rfl, rfl⟩, by decide, ?_⟩
      refine x_iconst 14 rfl (v := 1) dL_turn_13 (by decide) ?_
      exact x_toH (x_iret dL_turn_14 rfl rfl rfl)
def w_tenth (v1 : Int32) (v2 : Int32) (σ : xS) : Option (Int32 × xS) :=
  (f_RH_tenth_0 v1 v2 σ).bind fun q =>
  match q.1 with
  | .inl v => some ((0 : Int32), x_pL q.2 96 0 v.toInt64)
  | .inr k => if k = 2 then some ((1 : Int32), q.2) else none
set_option maxHeartbeats 4000000 in
set_option maxRecDepth 100000 in
theorem cw_tenth {l : Launch} {s0 : State} {a0 : Array Value} {D : va_G} {cA : Nat → ClassId} {sp : Nat → Nat} (E : x_En CL l s0 a0 D cA sp) (v1 : Int32) (v2 : Int32) {σ : xS} {r : Int32} {σ1 : xS} (h : w_tenth v1 v2 σ = some (r, σ1)) : x_CH l s0 D cA sp 8 M_La_tenth [.ref 0, .int v1, .int v2, .ref 96] σ (some (.int r)) σ1 := by
  unfold w_tenth at h
  obtain ⟨⟨o, σ2⟩, hq, h⟩ := x_bind h
  try dsimp only at h
  refine x_enterH [some (.ref 0), some (.int v1), some (.int v2), some (.ref 96), none] rfl (Nat.le_of_ble_eq_true rfl) (by decide +kernel) ?_
  refine x_aload_n 1 rfl 3 dL_tenth_0 rfl rfl ?_
  refine x_iconst 2 rfl (v := 0) dL_tenth_1 (by decide) ?_
  refine x_aload_n 3 rfl 0 dL_tenth_2 rfl rfl ?_
  refine x_iload_n 4 rfl 1 dL_tenth_3 rfl rfl ?_
  refine x_iload_n 5 rfl 2 dL_tenth_4 rfl rfl ?_
  refine x_callOC (bc := 0) (bs := 0) E (as := [.int v1, .int v2]) (rest := [.int 0, .ref 96]) dL_tenth_5 K_RL_30 ⟨(Nat.le_of_ble_eq_true rfl), (Nat.le_of_ble_eq_true rfl)⟩ sh_0 (by decide) rfl rfl rfl (Nat.le_of_ble_eq_true rfl) (c_RH_tenth_0 E v1 v2 hq) 8 rfl (fun v hv => ?_) (fun k hk => ?_)
  · cases o with
    | inr k => cases hv
    | inl a =>
      cases hv
      try dsimp only at h
      cases h
      refine x_i2l 9 rfl dL_tenth_8 ?_
      refine x_last E dL_tenth_9 sh_96 0 (by decide) (by decide) 10 rfl ?_
      refine x_goto 17 dL_tenth_10 (by decide) ?_
      refine x_iconst 18 rfl (v := 0) dL_tenth_17 (by decide) ?_
      exact x_toH (x_iret dL_tenth_18 rfl rfl rfl)
  · cases o with
    | inl a => cases hk
    | inr k2 =>
      cases hk
      try dsimp only at h
      obtain ⟨hc9, h⟩ := x_ift h
      subst hc9
      cases h
      refine ⟨13, 4, 2, KHd_tenth_2, Or.inr ⟨dL_tenth_13, rfl⟩, by decide, ?_⟩
      refine x_iconst 16 rfl (v := 1) dL_tenth_15 (by decide) ?_
      exact x_toH (x_iret dL_tenth_16 rfl rfl rfl)
def w_all (v1 : Int32) (σ : xS) : Option (Int32 × xS) :=
  (f_RH_all_0 v1 σ).bind fun q =>
  match q.1 with
  | .inl v => some ((0 : Int32), x_pL q.2 96 0 v.toInt64)
  | .inr k => if k = 2 then some ((1 : Int32), q.2) else none
set_option maxHeartbeats 4000000 in
set_option maxRecDepth 100000 in
theorem cw_all {l : Launch} {s0 : State} {a0 : Array Value} {D : va_G} {cA : Nat → ClassId} {sp : Nat → Nat} (E : x_En CL l s0 a0 D cA sp) (v1 : Int32) {σ : xS} {r : Int32} {σ1 : xS} (h : w_all v1 σ = some (r, σ1)) : x_CH l s0 D cA sp 8 M_La_all [.ref 0, .int v1, .ref 96] σ (some (.int r)) σ1 := by
  unfold w_all at h
  obtain ⟨⟨o, σ2⟩, hq, h⟩ := x_bind h
  try dsimp only at h
  refine x_enterH [some (.ref 0), some (.int v1), some (.ref 96), none] rfl (Nat.le_of_ble_eq_true rfl) (by decide +kernel) ?_
  refine x_aload_n 1 rfl 2 dL_all_0 rfl rfl ?_
  refine x_iconst 2 rfl (v := 0) dL_all_1 (by decide) ?_
  refine x_aload_n 3 rfl 0 dL_all_2 rfl rfl ?_
  refine x_iload_n 4 rfl 1 dL_all_3 rfl rfl ?_
  refine x_callOC (bc := 0) (bs := 0) E (as := [.int v1]) (rest := [.int 0, .ref 96]) dL_all_4 K_RL_33 ⟨(Nat.le_of_ble_eq_true rfl), (Nat.le_of_ble_eq_true rfl)⟩ sh_0 (by decide) rfl rfl rfl (Nat.le_of_ble_eq_true rfl) (c_RH_all_0 E v1 hq) 7 rfl (fun v hv => ?_) (fun k hk => ?_)
  · cases o with
    | inr k => cases hv
    | inl a =>
      cases hv
      try dsimp only at h
      cases h
      refine x_i2l 8 rfl dL_all_7 ?_
      refine x_last E dL_all_8 sh_96 0 (by decide) (by decide) 9 rfl ?_
      refine x_goto 15 dL_all_9 (by decide) ?_
      refine x_iconst 16 rfl (v := 0) dL_all_15 (by decide) ?_
      exact x_toH (x_iret dL_all_16 rfl rfl rfl)
  · cases o with
    | inl a => cases hk
    | inr k2 =>
      cases hk
      try dsimp only at h
      obtain ⟨hc9, h⟩ := x_ift h
      subst hc9
      cases h
      refine ⟨12, 3, 1, KHd_all_2, Or.inl ⟨3, dL_all_12, rfl, rfl⟩, by decide, ?_⟩
      refine x_iconst 14 rfl (v := 1) dL_all_13 (by decide) ?_
      exact x_toH (x_iret dL_all_14 rfl rfl rfl)
def w_chalk (v1 : Int32) (v2 : Int32) (σ : xS) : Option (Int32 × xS) :=
  (f_RH_chalk_0 v1 v2 σ).bind fun q =>
  match q.1 with
  | .inl v => some ((0 : Int32), x_pL q.2 96 0 v.toInt64)
  | .inr k => if k = 2 then some ((1 : Int32), q.2) else none
set_option maxHeartbeats 4000000 in
set_option maxRecDepth 100000 in
theorem cw_chalk {l : Launch} {s0 : State} {a0 : Array Value} {D : va_G} {cA : Nat → ClassId} {sp : Nat → Nat} (E : x_En CL l s0 a0 D cA sp) (v1 : Int32) (v2 : Int32) {σ : xS} {r : Int32} {σ1 : xS} (h : w_chalk v1 v2 σ = some (r, σ1)) : x_CH l s0 D cA sp 4 M_La_chalk [.ref 0, .int v1, .int v2, .ref 96] σ (some (.int r)) σ1 := by
  unfold w_chalk at h
  obtain ⟨⟨o, σ2⟩, hq, h⟩ := x_bind h
  try dsimp only at h
  refine x_enterH [some (.ref 0), some (.int v1), some (.int v2), some (.ref 96), none] rfl (Nat.le_of_ble_eq_true rfl) (by decide +kernel) ?_
  refine x_aload_n 1 rfl 3 dL_chalk_0 rfl rfl ?_
  refine x_iconst 2 rfl (v := 0) dL_chalk_1 (by decide) ?_
  refine x_aload_n 3 rfl 0 dL_chalk_2 rfl rfl ?_
  refine x_iload_n 4 rfl 1 dL_chalk_3 rfl rfl ?_
  refine x_iload_n 5 rfl 2 dL_chalk_4 rfl rfl ?_
  refine x_callOC (bc := 0) (bs := 0) E (as := [.int v1, .int v2]) (rest := [.int 0, .ref 96]) dL_chalk_5 K_RL_36 ⟨(Nat.le_of_ble_eq_true rfl), (Nat.le_of_ble_eq_true rfl)⟩ sh_0 (by decide) rfl rfl rfl (Nat.le_of_ble_eq_true rfl) (c_RH_chalk_0 E v1 v2 hq) 8 rfl (fun v hv => ?_) (fun k hk => ?_)
  · cases o with
    | inr k => cases hv
    | inl a =>
      cases hv
      try dsimp only at h
      cases h
      refine x_i2l 9 rfl dL_chalk_8 ?_
      refine x_last E dL_chalk_9 sh_96 0 (by decide) (by decide) 10 rfl ?_
      refine x_goto 17 dL_chalk_10 (by decide) ?_
      refine x_iconst 18 rfl (v := 0) dL_chalk_17 (by decide) ?_
      exact x_toH (x_iret dL_chalk_18 rfl rfl rfl)
  · cases o with
    | inl a => cases hk
    | inr k2 =>
      cases hk
      try dsimp only at h
      obtain ⟨hc9, h⟩ := x_ift h
      subst hc9
      cases h
      refine ⟨13, 4, 2, KHd_chalk_2, Or.inr ⟨dL_chalk_13, rfl⟩, by decide, ?_⟩
      refine x_iconst 16 rfl (v := 1) dL_chalk_15 (by decide) ?_
      exact x_toH (x_iret dL_chalk_16 rfl rfl rfl)
def w_best (v1 : Int32) (σ : xS) : Option (Int32 × xS) :=
  (f_RH_best_0 v1 σ).bind fun q =>
  match q.1 with
  | .inl v => some ((0 : Int32), x_pL q.2 96 0 v.toInt64)
  | .inr k => if k = 2 then some ((1 : Int32), q.2) else none
set_option maxHeartbeats 4000000 in
set_option maxRecDepth 100000 in
theorem cw_best {l : Launch} {s0 : State} {a0 : Array Value} {D : va_G} {cA : Nat → ClassId} {sp : Nat → Nat} (E : x_En CL l s0 a0 D cA sp) (v1 : Int32) {σ : xS} {r : Int32} {σ1 : xS} (h : w_best v1 σ = some (r, σ1)) : x_CH l s0 D cA sp 6 M_La_best [.ref 0, .int v1, .ref 96] σ (some (.int r)) σ1 := by
  unfold w_best at h
  obtain ⟨⟨o, σ2⟩, hq, h⟩ := x_bind h
  try dsimp only at h
  refine x_enterH [some (.ref 0), some (.int v1), some (.ref 96), none] rfl (Nat.le_of_ble_eq_true rfl) (by decide +kernel) ?_
  refine x_aload_n 1 rfl 2 dL_best_0 rfl rfl ?_
  refine x_iconst 2 rfl (v := 0) dL_best_1 (by decide) ?_
  refine x_aload_n 3 rfl 0 dL_best_2 rfl rfl ?_
  refine x_iload_n 4 rfl 1 dL_best_3 rfl rfl ?_
  refine x_callOC (bc := 0) (bs := 0) E (as := [.int v1]) (rest := [.int 0, .ref 96]) dL_best_4 K_RL_39 ⟨(Nat.le_of_ble_eq_true rfl), (Nat.le_of_ble_eq_true rfl)⟩ sh_0 (by decide) rfl rfl rfl (Nat.le_of_ble_eq_true rfl) (c_RH_best_0 E v1 hq) 7 rfl (fun v hv => ?_) (fun k hk => ?_)
  · cases o with
    | inr k => cases hv
    | inl a =>
      cases hv
      try dsimp only at h
      cases h
      refine x_i2l 8 rfl dL_best_7 ?_
      refine x_last E dL_best_8 sh_96 0 (by decide) (by decide) 9 rfl ?_
      refine x_goto 15 dL_best_9 (by decide) ?_
      refine x_iconst 16 rfl (v := 0) dL_best_15 (by decide) ?_
      exact x_toH (x_iret dL_best_16 rfl rfl rfl)
  · cases o with
    | inl a => cases hk
    | inr k2 =>
      cases hk
      try dsimp only at h
      obtain ⟨hc9, h⟩ := x_ift h
      subst hc9
      cases h
      refine ⟨12, 3, 1, KHd_best_2, Or.inl ⟨3, dL_best_12, rfl, rfl⟩, by decide, ?_⟩
      refine x_iconst 14 rfl (v := 1) dL_best_13 (by decide) ?_
      exact x_toH (x_iret dL_best_14 rfl rfl rfl)
def w_foretell (v1 : Int32) (σ : xS) : Option (Int32 × xS) :=
  (f_RH_foretell_0 v1 σ).bind fun q =>
  match q.1 with
  | .inl v => some ((0 : Int32), x_pL q.2 96 0 v.toInt64)
  | .inr k => if k = 2 then some ((1 : Int32), q.2) else none
set_option maxHeartbeats 4000000 in
set_option maxRecDepth 100000 in
theorem cw_foretell {l : Launch} {s0 : State} {a0 : Array Value} {D : va_G} {cA : Nat → ClassId} {sp : Nat → Nat} (E : x_En CL l s0 a0 D cA sp) (v1 : Int32) {σ : xS} {r : Int32} {σ1 : xS} (h : w_foretell v1 σ = some (r, σ1)) : x_CH l s0 D cA sp 6 M_La_foretell [.ref 0, .int v1, .ref 96] σ (some (.int r)) σ1 := by
  unfold w_foretell at h
  obtain ⟨⟨o, σ2⟩, hq, h⟩ := x_bind h
  try dsimp only at h
  refine x_enterH [some (.ref 0), some (.int v1), some (.ref 96), none] rfl (Nat.le_of_ble_eq_true rfl) (by decide +kernel) ?_
  refine x_aload_n 1 rfl 2 dL_foretell_0 rfl rfl ?_
  refine x_iconst 2 rfl (v := 0) dL_foretell_1 (by decide) ?_
  refine x_aload_n 3 rfl 0 dL_foretell_2 rfl rfl ?_
  refine x_iload_n 4 rfl 1 dL_foretell_3 rfl rfl ?_
  refine x_callOC (bc := 0) (bs := 0) E (as := [.int v1]) (rest := [.int 0, .ref 96]) dL_foretell_4 K_RL_42 ⟨(Nat.le_of_ble_eq_true rfl), (Nat.le_of_ble_eq_true rfl)⟩ sh_0 (by decide) rfl rfl rfl (Nat.le_of_ble_eq_true rfl) (c_RH_foretell_0 E v1 hq) 7 rfl (fun v hv => ?_) (fun k hk => ?_)
  · cases o with
    | inr k => cases hv
    | inl a =>
      cases hv
      try dsimp only at h
      cases h
      refine x_i2l 8 rfl dL_foretell_7 ?_
      refine x_last E dL_foretell_8 sh_96 0 (by decide) (by decide) 9 rfl ?_
      refine x_goto 15 dL_foretell_9 (by decide) ?_
      refine x_iconst 16 rfl (v := 0) dL_foretell_15 (by decide) ?_
      exact x_toH (x_iret dL_foretell_16 rfl rfl rfl)
  · cases o with
    | inl a => cases hk
    | inr k2 =>
      cases hk
      try dsimp only at h
      obtain ⟨hc9, h⟩ := x_ift h
      subst hc9
      cases h
      refine ⟨12, 3, 1, KHd_foretell_2, Or.inl ⟨3, dL_foretell_12, rfl, rfl⟩, by decide, ?_⟩
      refine x_iconst 14 rfl (v := 1) dL_foretell_13 (by decide) ?_
      exact x_toH (x_iret dL_foretell_14 rfl rfl rfl)
def w_holes (v1 : Int32) (σ : xS) : Option (Int32 × xS) :=
  (f_RH_holes_0 v1 σ).bind fun q =>
  match q.1 with
  | .inl v => some ((0 : Int32), x_pL q.2 96 0 v.toInt64)
  | .inr k => if k = 1 then some ((1 : Int32), q.2) else none
set_option maxHeartbeats 4000000 in
set_option maxRecDepth 100000 in
theorem cw_holes {l : Launch} {s0 : State} {a0 : Array Value} {D : va_G} {cA : Nat → ClassId} {sp : Nat → Nat} (E : x_En CL l s0 a0 D cA sp) (v1 : Int32) {σ : xS} {r : Int32} {σ1 : xS} (h : w_holes v1 σ = some (r, σ1)) : x_CH l s0 D cA sp 8 M_La_holes [.ref 0, .int v1, .ref 96] σ (some (.int r)) σ1 := by
  unfold w_holes at h
  obtain ⟨⟨o, σ2⟩, hq, h⟩ := x_bind h
  try dsimp only at h
  refine x_enterH [some (.ref 0), some (.int v1), some (.ref 96), none] rfl (Nat.le_of_ble_eq_true rfl) (by decide +kernel) ?_
  refine x_aload_n 1 rfl 2 dL_holes_0 rfl rfl ?_
  refine x_iconst 2 rfl (v := 0) dL_holes_1 (by decide) ?_
  refine x_aload_n 3 rfl 0 dL_holes_2 rfl rfl ?_
  refine x_iload_n 4 rfl 1 dL_holes_3 rfl rfl ?_
  refine x_callOC (bc := 0) (bs := 0) E (as := [.int v1]) (rest := [.int 0, .ref 96]) dL_holes_4 K_RL_45 ⟨(Nat.le_of_ble_eq_true rfl), (Nat.le_of_ble_eq_true rfl)⟩ sh_0 (by decide) rfl rfl rfl (Nat.le_of_ble_eq_true rfl) (c_RH_holes_0 E v1 hq) 7 rfl (fun v hv => ?_) (fun k hk => ?_)
  · cases o with
    | inr k => cases hv
    | inl a =>
      cases hv
      try dsimp only at h
      cases h
      refine x_i2l 8 rfl dL_holes_7 ?_
      refine x_last E dL_holes_8 sh_96 0 (by decide) (by decide) 9 rfl ?_
      refine x_goto 15 dL_holes_9 (by decide) ?_
      refine x_iconst 16 rfl (v := 0) dL_holes_15 (by decide) ?_
      exact x_toH (x_iret dL_holes_16 rfl rfl rfl)
  · cases o with
    | inl a => cases hk
    | inr k2 =>
      cases hk
      try dsimp only at h
      obtain ⟨hc9, h⟩ := x_ift h
      subst hc9
      cases h
      refine ⟨12, 3, 1, KHd_holes_1, Or.inl ⟨3, dL_holes_12, rfl, rfl⟩, by decide, ?_⟩
      refine x_iconst 14 rfl (v := 1) dL_holes_13 (by decide) ?_
      exact x_toH (x_iret dL_holes_14 rfl rfl rfl)
def w_light (v1 : Int32) (v2 : Int32) (σ : xS) : Option (Int32 × xS) :=
  (f_RH_light_0 v1 v2 σ).bind fun q =>
  match q.1 with
  | .inl v => some ((0 : Int32), x_pL q.2 96 0 v.toInt64)
  | .inr k => if k = 1 then some ((1 : Int32), q.2) else none
set_option maxHeartbeats 4000000 in
set_option maxRecDepth 100000 in
theorem cw_light {l : Launch} {s0 : State} {a0 : Array Value} {D : va_G} {cA : Nat → ClassId} {sp : Nat → Nat} (E : x_En CL l s0 a0 D cA sp) (v1 : Int32) (v2 : Int32) {σ : xS} {r : Int32} {σ1 : xS} (h : w_light v1 v2 σ = some (r, σ1)) : x_CH l s0 D cA sp 8 M_La_light [.ref 0, .int v1, .int v2, .ref 96] σ (some (.int r)) σ1 := by
  unfold w_light at h
  obtain ⟨⟨o, σ2⟩, hq, h⟩ := x_bind h
  try dsimp only at h
  refine x_enterH [some (.ref 0), some (.int v1), some (.int v2), some (.ref 96), none] rfl (Nat.le_of_ble_eq_true rfl) (by decide +kernel) ?_
  refine x_aload_n 1 rfl 3 dL_light_0 rfl rfl ?_
  refine x_iconst 2 rfl (v := 0) dL_light_1 (by decide) ?_
  refine x_aload_n 3 rfl 0 dL_light_2 rfl rfl ?_
  refine x_iload_n 4 rfl 1 dL_light_3 rfl rfl ?_
  refine x_iload_n 5 rfl 2 dL_light_4 rfl rfl ?_
  refine x_callOC (bc := 0) (bs := 0) E (as := [.int v1, .int v2]) (rest := [.int 0, .ref 96]) dL_light_5 K_RL_48 ⟨(Nat.le_of_ble_eq_true rfl), (Nat.le_of_ble_eq_true rfl)⟩ sh_0 (by decide) rfl rfl rfl (Nat.le_of_ble_eq_true rfl) (c_RH_light_0 E v1 v2 hq) 8 rfl (fun v hv => ?_) (fun k hk => ?_)
  · cases o with
    | inr k => cases hv
    | inl a =>
      cases hv
      try dsimp only at h
      cases h
      refine x_i2l 9 rfl dL_light_8 ?_
      refine x_last E dL_light_9 sh_96 0 (by decide) (by decide) 10 rfl ?_
      refine x_goto 17 dL_light_10 (by decide) ?_
      refine x_iconst 18 rfl (v := 0) dL_light_17 (by decide) ?_
      exact x_toH (x_iret dL_light_18 rfl rfl rfl)
  · cases o with
    | inl a => cases hk
    | inr k2 =>
      cases hk
      try dsimp only at h
      obtain ⟨hc9, h⟩ := x_ift h
      subst hc9
      cases h
      refine ⟨13, 4, 2, KHd_light_1, Or.inr ⟨dL_light_13, rfl⟩, by decide, ?_⟩
      refine x_iconst 16 rfl (v := 1) dL_light_15 (by decide) ?_
      exact x_toH (x_iret dL_light_16 rfl rfl rfl)
def w_marks (v1 : Int32) (σ : xS) : Option (Int32 × xS) :=
  (f_RH_marks_0 v1 σ).bind fun q =>
  match q.1 with
  | .inl v => some ((0 : Int32), x_pL q.2 96 0 v.toInt64)
  | .inr k => if k = 1 then some ((1 : Int32), q.2) else none
set_option maxHeartbeats 4000000 in
set_option maxRecDepth 100000 in
theorem cw_marks {l : Launch} {s0 : State} {a0 : Array Value} {D : va_G} {cA : Nat → ClassId} {sp : Nat → Nat} (E : x_En CL l s0 a0 D cA sp) (v1 : Int32) {σ : xS} {r : Int32} {σ1 : xS} (h : w_marks v1 σ = some (r, σ1)) : x_CH l s0 D cA sp 8 M_La_marks [.ref 0, .int v1, .ref 96] σ (some (.int r)) σ1 := by
  unfold w_marks at h
  obtain ⟨⟨o, σ2⟩, hq, h⟩ := x_bind h
  try dsimp only at h
  refine x_enterH [some (.ref 0), some (.int v1), some (.ref 96), none] rfl (Nat.le_of_ble_eq_true rfl) (by decide +kernel) ?_
  refine x_aload_n 1 rfl 2 dL_marks_0 rfl rfl ?_
  refine x_iconst 2 rfl (v := 0) dL_marks_1 (by decide) ?_
  refine x_aload_n 3 rfl 0 dL_marks_2 rfl rfl ?_
  refine x_iload_n 4 rfl 1 dL_marks_3 rfl rfl ?_
  refine x_callOC (bc := 0) (bs := 0) E (as := [.int v1]) (rest := [.int 0, .ref 96]) dL_marks_4 K_RL_51 ⟨(Nat.le_of_ble_eq_true rfl), (Nat.le_of_ble_eq_true rfl)⟩ sh_0 (by decide) rfl rfl rfl (Nat.le_of_ble_eq_true rfl) (c_RH_marks_0 E v1 hq) 7 rfl (fun v hv => ?_) (fun k hk => ?_)
  · cases o with
    | inr k => cases hv
    | inl a =>
      cases hv
      try dsimp only at h
      cases h
      refine x_i2l 8 rfl dL_marks_7 ?_
      refine x_last E dL_marks_8 sh_96 0 (by decide) (by decide) 9 rfl ?_
      refine x_goto 15 dL_marks_9 (by decide) ?_
      refine x_iconst 16 rfl (v := 0) dL_marks_15 (by decide) ?_
      exact x_toH (x_iret dL_marks_16 rfl rfl rfl)
  · cases o with
    | inl a => cases hk
    | inr k2 =>
      cases hk
      try dsimp only at h
      obtain ⟨hc9, h⟩ := x_ift h
      subst hc9
      cases h
      refine ⟨12, 3, 1, KHd_marks_1, Or.inl ⟨3, dL_marks_12, rfl, rfl⟩, by decide, ?_⟩
      refine x_iconst 14 rfl (v := 1) dL_marks_13 (by decide) ?_
      exact x_toH (x_iret dL_marks_14 rfl rfl rfl)
def w_kept (v1 : Int32) (σ : xS) : Option (Int32 × xS) :=
  (f_RH_kept_0 v1 σ).bind fun q =>
  match q.1 with
  | .inl v => some ((0 : Int32), x_pL q.2 96 0 v.toInt64)
  | .inr k => if k = 2 then some ((1 : Int32), q.2) else none
set_option maxHeartbeats 4000000 in
set_option maxRecDepth 100000 in
theorem cw_kept {l : Launch} {s0 : State} {a0 : Array Value} {D : va_G} {cA : Nat → ClassId} {sp : Nat → Nat} (E : x_En CL l s0 a0 D cA sp) (v1 : Int32) {σ : xS} {r : Int32} {σ1 : xS} (h : w_kept v1 σ = some (r, σ1)) : x_CH l s0 D cA sp 1 M_La_kept [.ref 0, .int v1, .ref 96] σ (some (.int r)) σ1 := by
  unfold w_kept at h
  obtain ⟨⟨o, σ2⟩, hq, h⟩ := x_bind h
  try dsimp only at h
  refine x_enterH [some (.ref 0), some (.int v1), some (.ref 96), none] rfl (Nat.le_of_ble_eq_true rfl) (by decide +kernel) ?_
  refine x_aload_n 1 rfl 2 dL_kept_0 rfl rfl ?_
  refine x_iconst 2 rfl (v := 0) dL_kept_1 (by decide) ?_
  refine x_aload_n 3 rfl 0 dL_kept_2 rfl rfl ?_
  refine x_iload_n 4 rfl 1 dL_kept_3 rfl rfl ?_
  refine x_callOC (bc := 0) (bs := 0) E (as := [.int v1]) (rest := [.int 0, .ref 96]) dL_kept_4 K_RL_54 ⟨(Nat.le_of_ble_eq_true rfl), (Nat.le_of_ble_eq_true rfl)⟩ sh_0 (by decide) rfl rfl rfl (Nat.le_of_ble_eq_true rfl) (c_RH_kept_0 E v1 hq) 7 rfl (fun v hv => ?_) (fun k hk => ?_)
  · cases o with
    | inr k => cases hv
    | inl a =>
      cases hv
      try dsimp only at h
      cases h
      refine x_i2l 8 rfl dL_kept_7 ?_
      refine x_last E dL_kept_8 sh_96 0 (by decide) (by decide) 9 rfl ?_
      refine x_goto 15 dL_kept_9 (by decide) ?_
      refine x_iconst 16 rfl (v := 0) dL_kept_15 (by decide) ?_
      exact x_toH (x_iret dL_kept_16 rfl rfl rfl)
  · cases o with
    | inl a => cases hk
    | inr k2 =>
      cases hk
      try dsimp only at h
      obtain ⟨hc9, h⟩ := x_ift h
      subst hc9
      cases h
      refine ⟨12, 3, 1, KHd_kept_2, Or.inl ⟨3, dL_kept_12, rfl, rfl⟩, by decide, ?_⟩
      refine x_iconst 14 rfl (v := 1) dL_kept_13 (by decide) ?_
      exact x_toH (x_iret dL_kept_14 rfl rfl rfl)
def w_takes (v1 : Int32) (v2 : Int32) (v3 : Int32) (v4 : Int32) (v5 : Int32) (σ : xS) : Option (Int32 × xS) :=
  (f_RH_takes_0 v1 v2 v3 v4 v5 σ).bind fun q =>
  match q.1 with
  | .inl v => some ((0 : Int32), x_pL q.2 96 0 v.toInt64)
  | .inr k => if k = 2 then some ((1 : Int32), q.2) else if k = 1 then some ((2 : Int32), q.2) else none
set_option maxHeartbeats 4000000 in
set_option maxRecDepth 100000 in
theorem cw_takes {l : Launch} {s0 : State} {a0 : Array Value} {D : va_G} {cA : Nat → ClassId} {sp : Nat → Nat} (E : x_En CL l s0 a0 D cA sp) (v1 : Int32) (v2 : Int32) (v3 : Int32) (v4 : Int32) (v5 : Int32) {σ : xS} {r : Int32} {σ1 : xS} (h : w_takes v1 v2 v3 v4 v5 σ = some (r, σ1)) : x_CH l s0 D cA sp 9 M_La_takes [.ref 0, .int v1, .int v2, .int v3, .int v4, .int v5, .ref 96] σ (some (.int r)) σ1 := by
  unfold w_takes at h
  obtain ⟨⟨o, σ2⟩, hq, h⟩ := x_bind h
  try dsimp only at h
  refine x_enterH [some (.ref 0), some (.int v1), some (.int v2), some (.int v3), some (.int v4), some (.int v5), some (.ref 96), none] rfl (Nat.le_of_ble_eq_true rfl) (by decide +kernel) ?_
  refine x_aload 2 rfl dL_takes_0 rfl ?_
  refine x_iconst 3 rfl (v := 0) dL_takes_2 (by decide) ?_
  refine x_aload_n 4 rfl 0 dL_takes_3 rfl rfl ?_
  refine x_iload_n 5 rfl 1 dL_takes_4 rfl rfl ?_
  refine x_iload_n 6 rfl 2 dL_takes_5 rfl rfl ?_
  refine x_iload_n 7 rfl 3 dL_takes_6 rfl rfl ?_
  refine x_iload 9 rfl dL_takes_7 rfl ?_
  refine x_iload 11 rfl dL_takes_9 rfl ?_
  refine x_callOC (bc := 0) (bs := 0) E (as := [.int v1, .int v2, .int v3, .int v4, .int v5]) (rest := [.int 0, .ref 96]) dL_takes_11 K_RL_57 ⟨(Nat.le_of_ble_eq_true rfl), (Nat.le_of_ble_eq_true rfl)⟩ sh_0 (by decide) rfl rfl rfl (Nat.le_of_ble_eq_true rfl) (c_RH_takes_0 E v1 v2 v3 v4 v5 hq) 14 rfl (fun v hv => ?_) (fun k hk => ?_)
  · cases o with
    | inr k => cases hv
    | inl a =>
      cases hv
      try dsimp only at h
      cases h
      refine x_i2l 15 rfl dL_takes_14 ?_
      refine x_last E dL_takes_15 sh_96 0 (by decide) (by decide) 16 rfl ?_
      refine x_goto 27 dL_takes_16 (by decide) ?_
      refine x_iconst 28 rfl (v := 0) dL_takes_27 (by decide) ?_
      exact x_toH (x_iret dL_takes_28 rfl rfl rfl)
  · cases o with
    | inl a => cases hk
    | inr k2 =>
      cases hk
      try dsimp only at h
      by_cases hc0 : k = 2
      · subst hc0
        rw [if_pos rfl] at h
        cases h
        refine ⟨19, 7, 2, KHd_takes_2, Or.inr ⟨dL_takes_19, rfl⟩, by decide, ?_⟩
        refine x_iconst 22 rfl (v := 1) dL_takes_21 (by decide) ?_
        exact x_toH (x_iret dL_takes_22 rfl rfl rfl)
      rw [if_neg hc0] at h
      obtain ⟨hc9, h⟩ := x_ift h
      subst hc9
      cases h
      refine ⟨23, 7, 2, KHd_takes_1, Or.inr ⟨dL_takes_23, rfl⟩, by decide, ?_⟩
      refine x_iconst 26 rfl (v := 2) dL_takes_25 (by decide) ?_
      exact x_toH (x_iret dL_takes_26 rfl rfl rfl)
def w_see (v1 : Int32) (v2 : Int32) (σ : xS) : Option (Int32 × xS) :=
  (f_RH_see_0 v1 v2 σ).bind fun q =>
  match q.1 with
  | .inl v => some ((0 : Int32), x_pL q.2 96 0 v.toInt64)
  | .inr k => if k = 2 then some ((1 : Int32), q.2) else none
set_option maxHeartbeats 4000000 in
set_option maxRecDepth 100000 in
theorem cw_see {l : Launch} {s0 : State} {a0 : Array Value} {D : va_G} {cA : Nat → ClassId} {sp : Nat → Nat} (E : x_En CL l s0 a0 D cA sp) (v1 : Int32) (v2 : Int32) {σ : xS} {r : Int32} {σ1 : xS} (h : w_see v1 v2 σ = some (r, σ1)) : x_CH l s0 D cA sp 2 M_La_see [.ref 0, .int v1, .int v2, .ref 96] σ (some (.int r)) σ1 := by
  unfold w_see at h
  obtain ⟨⟨o, σ2⟩, hq, h⟩ := x_bind h
  try dsimp only at h
  refine x_enterH [some (.ref 0), some (.int v1), some (.int v2), some (.ref 96), none] rfl (Nat.le_of_ble_eq_true rfl) (by decide +kernel) ?_
  refine x_aload_n 1 rfl 3 dL_see_0 rfl rfl ?_
  refine x_iconst 2 rfl (v := 0) dL_see_1 (by decide) ?_
  refine x_aload_n 3 rfl 0 dL_see_2 rfl rfl ?_
  refine x_iload_n 4 rfl 1 dL_see_3 rfl rfl ?_
  refine x_iload_n 5 rfl 2 dL_see_4 rfl rfl ?_
  refine x_callOC (bc := 0) (bs := 0) E (as := [.int v1, .int v2]) (rest := [.int 0, .ref 96]) dL_see_5 K_RL_61 ⟨(Nat.le_of_ble_eq_true rfl), (Nat.le_of_ble_eq_true rfl)⟩ sh_0 (by decide) rfl rfl rfl (Nat.le_of_ble_eq_true rfl) (c_RH_see_0 E v1 v2 hq) 8 rfl (fun v hv => ?_) (fun k hk => ?_)
  · cases o with
    | inr k => cases hv
    | inl a =>
      cases hv
      try dsimp only at h
      cases h
      refine x_i2l 9 rfl dL_see_8 ?_
      refine x_last E dL_see_9 sh_96 0 (by decide) (by decide) 10 rfl ?_
      refine x_goto 17 dL_see_10 (by decide) ?_
      refine x_iconst 18 rfl (v := 0) dL_see_17 (by decide) ?_
      exact x_toH (x_iret dL_see_18 rfl rfl rfl)
  · cases o with
    | inl a => cases hk
    | inr k2 =>
      cases hk
      try dsimp only at h
      obtain ⟨hc9, h⟩ := x_ift h
      subst hc9
      cases h
      refine ⟨13, 4, 2, KHd_see_2, Or.inr ⟨dL_see_13, rfl⟩, by decide, ?_⟩
      refine x_iconst 16 rfl (v := 1) dL_see_15 (by decide) ?_
      exact x_toH (x_iret dL_see_16 rfl rfl rfl)
def w_fits (v1 : Int32) (σ : xS) : Option (Int32 × xS) :=
  (f_RH_fits_0 v1 σ).bind fun q =>
  match q.1 with
  | .inl v => some ((0 : Int32), x_pL q.2 96 0 v.toInt64)
  | .inr k => if k = 2 then some ((1 : Int32), q.2) else none
set_option maxHeartbeats 4000000 in
set_option maxRecDepth 100000 in
theorem cw_fits {l : Launch} {s0 : State} {a0 : Array Value} {D : va_G} {cA : Nat → ClassId} {sp : Nat → Nat} (E : x_En CL l s0 a0 D cA sp) (v1 : Int32) {σ : xS} {r : Int32} {σ1 : xS} (h : w_fits v1 σ = some (r, σ1)) : x_CH l s0 D cA sp 8 M_La_fits [.ref 0, .int v1, .ref 96] σ (some (.int r)) σ1 := by
  unfold w_fits at h
  obtain ⟨⟨o, σ2⟩, hq, h⟩ := x_bind h
  try dsimp only at h
  refine x_enterH [some (.ref 0), some (.int v1), some (.ref 96), none] rfl (Nat.le_of_ble_eq_true rfl) (by decide +kernel) ?_
  refine x_aload_n 1 rfl 2 dL_fits_0 rfl rfl ?_
  refine x_iconst 2 rfl (v := 0) dL_fits_1 (by decide) ?_
  refine x_aload_n 3 rfl 0 dL_fits_2 rfl rfl ?_
  refine x_iload_n 4 rfl 1 dL_fits_3 rfl rfl ?_
  refine x_callOC (bc := 0) (bs := 0) E (as := [.int v1]) (rest := [.int 0, .ref 96]) dL_fits_4 K_RL_65 ⟨(Nat.le_of_ble_eq_true rfl), (Nat.le_of_ble_eq_true rfl)⟩ sh_0 (by decide) rfl rfl rfl (Nat.le_of_ble_eq_true rfl) (c_RH_fits_0 E v1 hq) 7 rfl (fun v hv => ?_) (fun k hk => ?_)
  · cases o with
    | inr k => cases hv
    | inl a =>
      cases hv
      try dsimp only at h
      cases h
      refine x_i2l 8 rfl dL_fits_7 ?_
      refine x_last E dL_fits_8 sh_96 0 (by decide) (by decide) 9 rfl ?_
      refine x_goto 15 dL_fits_9 (by decide) ?_
      refine x_iconst 16 rfl (v := 0) dL_fits_15 (by decide) ?_
      exact x_toH (x_iret dL_fits_16 rfl rfl rfl)
  · cases o with
    | inl a => cases hk
    | inr k2 =>
      cases hk
      try dsimp only at h
      obtain ⟨hc9, h⟩ := x_ift h
      subst hc9
      cases h
      refine ⟨12, 3, 1, KHd_fits_2, Or.inl ⟨3, dL_fits_12, rfl, rfl⟩, by decide, ?_⟩
      refine x_iconst 14 rfl (v := 1) dL_fits_13 (by decide) ?_
      exact x_toH (x_iret dL_fits_14 rfl rfl rfl)
def w_next (v1 : Int32) (v2 : Int32) (σ : xS) : Option (Int32 × xS) :=
  (f_RH_next_0 v1 v2 σ).bind fun q =>
  match q.1 with
  | .inl v => some ((0 : Int32), x_pL q.2 96 0 v.toInt64)
  | .inr k => if k = 2 then some ((1 : Int32), q.2) else none
set_option maxHeartbeats 4000000 in
set_option maxRecDepth 100000 in
theorem cw_next {l : Launch} {s0 : State} {a0 : Array Value} {D : va_G} {cA : Nat → ClassId} {sp : Nat → Nat} (E : x_En CL l s0 a0 D cA sp) (v1 : Int32) (v2 : Int32) {σ : xS} {r : Int32} {σ1 : xS} (h : w_next v1 v2 σ = some (r, σ1)) : x_CH l s0 D cA sp 3 M_La_next [.ref 0, .int v1, .int v2, .ref 96] σ (some (.int r)) σ1 := by
  unfold w_next at h
  obtain ⟨⟨o, σ2⟩, hq, h⟩ := x_bind h
  try dsimp only at h
  refine x_enterH [some (.ref 0), some (.int v1), some (.int v2), some (.ref 96), none] rfl (Nat.le_of_ble_eq_true rfl) (by decide +kernel) ?_
  refine x_aload_n 1 rfl 3 dL_next_0 rfl rfl ?_
  refine x_iconst 2 rfl (v := 0) dL_next_1 (by decide) ?_
  refine x_aload_n 3 rfl 0 dL_next_2 rfl rfl ?_
  refine x_iload_n 4 rfl 1 dL_next_3 rfl rfl ?_
  refine x_iload_n 5 rfl 2 dL_next_4 rfl rfl ?_
  refine x_callOC (bc := 0) (bs := 0) E (as := [.int v1, .int v2]) (rest := [.int 0, .ref 96]) dL_next_5 K_RL_68 ⟨(Nat.le_of_ble_eq_true rfl), (Nat.le_of_ble_eq_true rfl)⟩ sh_0 (by decide) rfl rfl rfl (Nat.le_of_ble_eq_true rfl) (c_RH_next_0 E v1 v2 hq) 8 rfl (fun v hv => ?_) (fun k hk => ?_)
  · cases o with
    | inr k => cases hv
    | inl a =>
      cases hv
      try dsimp only at h
      cases h
      refine x_i2l 9 rfl dL_next_8 ?_
      refine x_last E dL_next_9 sh_96 0 (by decide) (by decide) 10 rfl ?_
      refine x_goto 17 dL_next_10 (by decide) ?_
      refine x_iconst 18 rfl (v := 0) dL_next_17 (by decide) ?_
      exact x_toH (x_iret dL_next_18 rfl rfl rfl)
  · cases o with
    | inl a => cases hk
    | inr k2 =>
      cases hk
      try dsimp only at h
      obtain ⟨hc9, h⟩ := x_ift h
      subst hc9
      cases h
      refine ⟨13, 4, 2, KHd_next_2, Or.inr ⟨dL_next_13, rfl⟩, by decide, ?_⟩
      refine x_iconst 16 rfl (v := 1) dL_next_15 (by decide) ?_
      exact x_toH (x_iret dL_next_16 rfl rfl rfl)
def w_middle (v1 : Int32) (σ : xS) : Option (Int32 × xS) :=
  (f_RH_middle_0 v1 σ).bind fun q =>
  match q.1 with
  | .inl v => some ((0 : Int32), x_pL q.2 96 0 v.toInt64)
  | .inr k => if k = 2 then some ((1 : Int32), q.2) else none
set_option maxHeartbeats 4000000 in
set_option maxRecDepth 100000 in
theorem cw_middle {l : Launch} {s0 : State} {a0 : Array Value} {D : va_G} {cA : Nat → ClassId} {sp : Nat → Nat} (E : x_En CL l s0 a0 D cA sp) (v1 : Int32) {σ : xS} {r : Int32} {σ1 : xS} (h : w_middle v1 σ = some (r, σ1)) : x_CH l s0 D cA sp 3 M_La_middle [.ref 0, .int v1, .ref 96] σ (some (.int r)) σ1 := by
  unfold w_middle at h
  obtain ⟨⟨o, σ2⟩, hq, h⟩ := x_bind h
  try dsimp only at h
  refine x_enterH [some (.ref 0), some (.int v1), some (.ref 96), none] rfl (Nat.le_of_ble_eq_true rfl) (by decide +kernel) ?_
  refine x_aload_n 1 rfl 2 dL_middle_0 rfl rfl ?_
  refine x_iconst 2 rfl (v := 0) dL_middle_1 (by decide) ?_
  refine x_aload_n 3 rfl 0 dL_middle_2 rfl rfl ?_
  refine x_iload_n 4 rfl 1 dL_middle_3 rfl rfl ?_
  refine x_callOC (bc := 0) (bs := 0) E (as := [.int v1]) (rest := [.int 0, .ref 96]) dL_middle_4 K_RL_71 ⟨(Nat.le_of_ble_eq_true rfl), (Nat.le_of_ble_eq_true rfl)⟩ sh_0 (by decide) rfl rfl rfl (Nat.le_of_ble_eq_true rfl) (c_RH_middle_0 E v1 hq) 7 rfl (fun v hv => ?_) (fun k hk => ?_)
  · cases o with
    | inr k => cases hv
    | inl a =>
      cases hv
      try dsimp only at h
      cases h
      refine x_i2l 8 rfl dL_middle_7 ?_
      refine x_last E dL_middle_8 sh_96 0 (by decide) (by decide) 9 rfl ?_
      refine x_goto 15 dL_middle_9 (by decide) ?_
      refine x_iconst 16 rfl (v := 0) dL_middle_15 (by decide) ?_
      exact x_toH (x_iret dL_middle_16 rfl rfl rfl)
  · cases o with
    | inl a => cases hk
    | inr k2 =>
      cases hk
      try dsimp only at h
      obtain ⟨hc9, h⟩ := x_ift h
      subst hc9
      cases h
      refine ⟨12, 3, 1, KHd_middle_2, Or.inl ⟨3, dL_middle_12, rfl, rfl⟩, by decide, ?_⟩
      refine x_iconst 14 rfl (v := 1) dL_middle_13 (by decide) ?_
      exact x_toH (x_iret dL_middle_14 rfl rfl rfl)
def w_runs (v1 : Int32) (v2 : Int32) (σ : xS) : Option (Int32 × xS) :=
  (f_RH_runs_0 v1 v2 σ).bind fun q =>
  match q.1 with
  | .inl v => some ((0 : Int32), x_pL q.2 96 0 v.toInt64)
  | .inr k => if k = 2 then some ((1 : Int32), q.2) else none
set_option maxHeartbeats 4000000 in
set_option maxRecDepth 100000 in
theorem cw_runs {l : Launch} {s0 : State} {a0 : Array Value} {D : va_G} {cA : Nat → ClassId} {sp : Nat → Nat} (E : x_En CL l s0 a0 D cA sp) (v1 : Int32) (v2 : Int32) {σ : xS} {r : Int32} {σ1 : xS} (h : w_runs v1 v2 σ = some (r, σ1)) : x_CH l s0 D cA sp 8 M_La_runs [.ref 0, .int v1, .int v2, .ref 96] σ (some (.int r)) σ1 := by
  unfold w_runs at h
  obtain ⟨⟨o, σ2⟩, hq, h⟩ := x_bind h
  try dsimp only at h
  refine x_enterH [some (.ref 0), some (.int v1), some (.int v2), some (.ref 96), none] rfl (Nat.le_of_ble_eq_true rfl) (by decide +kernel) ?_
  refine x_aload_n 1 rfl 3 dL_runs_0 rfl rfl ?_
  refine x_iconst 2 rfl (v := 0) dL_runs_1 (by decide) ?_
  refine x_aload_n 3 rfl 0 dL_runs_2 rfl rfl ?_
  refine x_iload_n 4 rfl 1 dL_runs_3 rfl rfl ?_
  refine x_iload_n 5 rfl 2 dL_runs_4 rfl rfl ?_
  refine x_callOC (bc := 0) (bs := 0) E (as := [.int v1, .int v2]) (rest := [.int 0, .ref 96]) dL_runs_5 K_RL_74 ⟨(Nat.le_of_ble_eq_true rfl), (Nat.le_of_ble_eq_true rfl)⟩ sh_0 (by decide) rfl rfl rfl (Nat.le_of_ble_eq_true rfl) (c_RH_runs_0 E v1 v2 hq) 8 rfl (fun v hv => ?_) (fun k hk => ?_)
  · cases o with
    | inr k => cases hv
    | inl a =>
      cases hv
      try dsimp only at h
      cases h
      refine x_i2l 9 rfl dL_runs_8 ?_
      refine x_last E dL_runs_9 sh_96 0 (by decide) (by decide) 10 rfl ?_
      refine x_goto 17 dL_runs_10 (by decide) ?_
      refine x_iconst 18 rfl (v := 0) dL_runs_17 (by decide) ?_
      exact x_toH (x_iret dL_runs_18 rfl rfl rfl)
  · cases o with
    | inl a => cases hk
    | inr k2 =>
      cases hk
      try dsimp only at h
      obtain ⟨hc9, h⟩ := x_ift h
      subst hc9
      cases h
      refine ⟨13, 4, 2, KHd_runs_2, Or.inr ⟨dL_runs_13, rfl⟩, by decide, ?_⟩
      refine x_iconst 16 rfl (v := 1) dL_runs_15 (by decide) ?_
      exact x_toH (x_iret dL_runs_16 rfl rfl rfl)
def w_shift (v1 : Int32) (σ : xS) : Option (Int32 × xS) :=
  (f_RH_shift_0 v1 σ).bind fun q =>
  match q.1 with
  | .inl v => some ((0 : Int32), x_pL q.2 96 0 v.toInt64)
  | .inr k => if k = 2 then some ((1 : Int32), q.2) else none
set_option maxHeartbeats 4000000 in
set_option maxRecDepth 100000 in
theorem cw_shift {l : Launch} {s0 : State} {a0 : Array Value} {D : va_G} {cA : Nat → ClassId} {sp : Nat → Nat} (E : x_En CL l s0 a0 D cA sp) (v1 : Int32) {σ : xS} {r : Int32} {σ1 : xS} (h : w_shift v1 σ = some (r, σ1)) : x_CH l s0 D cA sp 8 M_La_shift [.ref 0, .int v1, .ref 96] σ (some (.int r)) σ1 := by
  unfold w_shift at h
  obtain ⟨⟨o, σ2⟩, hq, h⟩ := x_bind h
  try dsimp only at h
  refine x_enterH [some (.ref 0), some (.int v1), some (.ref 96), none] rfl (Nat.le_of_ble_eq_true rfl) (by decide +kernel) ?_
  refine x_aload_n 1 rfl 2 dL_shift_0 rfl rfl ?_
  refine x_iconst 2 rfl (v := 0) dL_shift_1 (by decide) ?_
  refine x_aload_n 3 rfl 0 dL_shift_2 rfl rfl ?_
  refine x_iload_n 4 rfl 1 dL_shift_3 rfl rfl ?_
  refine x_callOC (bc := 0) (bs := 0) E (as := [.int v1]) (rest := [.int 0, .ref 96]) dL_shift_4 K_RL_77 ⟨(Nat.le_of_ble_eq_true rfl), (Nat.le_of_ble_eq_true rfl)⟩ sh_0 (by decide) rfl rfl rfl (Nat.le_of_ble_eq_true rfl) (c_RH_shift_0 E v1 hq) 7 rfl (fun v hv => ?_) (fun k hk => ?_)
  · cases o with
    | inr k => cases hv
    | inl a =>
      cases hv
      try dsimp only at h
      cases h
      refine x_i2l 8 rfl dL_shift_7 ?_
      refine x_last E dL_shift_8 sh_96 0 (by decide) (by decide) 9 rfl ?_
      refine x_goto 15 dL_shift_9 (by decide) ?_
      refine x_iconst 16 rfl (v := 0) dL_shift_15 (by decide) ?_
      exact x_toH (x_iret dL_shift_16 rfl rfl rfl)
  · cases o with
    | inl a => cases hk
    | inr k2 =>
      cases hk
      try dsimp only at h
      obtain ⟨hc9, h⟩ := x_ift h
      subst hc9
      cases h
      refine ⟨12, 3, 1, KHd_shift_2, Or.inl ⟨3, dL_shift_12, rfl, rfl⟩, by decide, ?_⟩
      refine x_iconst 14 rfl (v := 1) dL_shift_13 (by decide) ?_
      exact x_toH (x_iret dL_shift_14 rfl rfl rfl)
def w_slip (v1 : Int32) (σ : xS) : Option (Int32 × xS) :=
  (f_RH_slip_0 v1 σ).bind fun q =>
  match q.1 with
  | .inl v => some ((0 : Int32), x_pL q.2 96 0 v.toInt64)
  | .inr k => if k = 2 then some ((1 : Int32), q.2) else none
set_option maxHeartbeats 4000000 in
set_option maxRecDepth 100000 in
theorem cw_slip {l : Launch} {s0 : State} {a0 : Array Value} {D : va_G} {cA : Nat → ClassId} {sp : Nat → Nat} (E : x_En CL l s0 a0 D cA sp) (v1 : Int32) {σ : xS} {r : Int32} {σ1 : xS} (h : w_slip v1 σ = some (r, σ1)) : x_CH l s0 D cA sp 9 M_La_slip [.ref 0, .int v1, .ref 96] σ (some (.int r)) σ1 := by
  unfold w_slip at h
  obtain ⟨⟨o, σ2⟩, hq, h⟩ := x_bind h
  try dsimp only at h
  refine x_enterH [some (.ref 0), some (.int v1), some (.ref 96), none] rfl (Nat.le_of_ble_eq_true rfl) (by decide +kernel) ?_
  refine x_aload_n 1 rfl 2 dL_slip_0 rfl rfl ?_
  refine x_iconst 2 rfl (v := 0) dL_slip_1 (by decide) ?_
  refine x_aload_n 3 rfl 0 dL_slip_2 rfl rfl ?_
  refine x_iload_n 4 rfl 1 dL_slip_3 rfl rfl ?_
  refine x_callOC (bc := 0) (bs := 0) E (as := [.int v1]) (rest := [.int 0, .ref 96]) dL_slip_4 K_RL_80 ⟨(Nat.le_of_ble_eq_true rfl), (Nat.le_of_ble_eq_true rfl)⟩ sh_0 (by decide) rfl rfl rfl (Nat.le_of_ble_eq_true rfl) (c_RH_slip_0 E v1 hq) 7 rfl (fun v hv => ?_) (fun k hk => ?_)
  · cases o with
    | inr k => cases hv
    | inl a =>
      cases hv
      try dsimp only at h
      cases h
      refine x_i2l 8 rfl dL_slip_7 ?_
      refine x_last E dL_slip_8 sh_96 0 (by decide) (by decide) 9 rfl ?_
      refine x_goto 15 dL_slip_9 (by decide) ?_
      refine x_iconst 16 rfl (v := 0) dL_slip_15 (by decide) ?_
      exact x_toH (x_iret dL_slip_16 rfl rfl rfl)
  · cases o with
    | inl a => cases hk
    | inr k2 =>
      cases hk
      try dsimp only at h
      obtain ⟨hc9, h⟩ := x_ift h
      subst hc9
      cases h
      refine ⟨12, 3, 1, KHd_slip_2, Or.inl ⟨3, dL_slip_12, rfl, rfl⟩, by decide, ?_⟩
      refine x_iconst 14 rfl (v := 1) dL_slip_13 (by decide) ?_
      exact x_toH (x_iret dL_slip_14 rfl rfl rfl)
def w_lags (v1 : Int32) (σ : xS) : Option (Int32 × xS) :=
  (f_RH_lags_0 v1 σ).bind fun q =>
  match q.1 with
  | .inl v => some ((0 : Int32), x_pL q.2 96 0 v.toInt64)
  | .inr k => if k = 2 then some ((1 : Int32), q.2) else none
set_option maxHeartbeats 4000000 in
set_option maxRecDepth 100000 in
theorem cw_lags {l : Launch} {s0 : State} {a0 : Array Value} {D : va_G} {cA : Nat → ClassId} {sp : Nat → Nat} (E : x_En CL l s0 a0 D cA sp) (v1 : Int32) {σ : xS} {r : Int32} {σ1 : xS} (h : w_lags v1 σ = some (r, σ1)) : x_CH l s0 D cA sp 7 M_La_lags [.ref 0, .int v1, .ref 96] σ (some (.int r)) σ1 := by
  unfold w_lags at h
  obtain ⟨⟨o, σ2⟩, hq, h⟩ := x_bind h
  try dsimp only at h
  refine x_enterH [some (.ref 0), some (.int v1), some (.ref 96), none] rfl (Nat.le_of_ble_eq_true rfl) (by decide +kernel) ?_
  refine x_aload_n 1 rfl 2 dL_lags_0 rfl rfl ?_
  refine x_iconst 2 rfl (v := 0) dL_lags_1 (by decide) ?_
  refine x_aload_n 3 rfl 0 dL_lags_2 rfl rfl ?_
  refine x_iload_n 4 rfl 1 dL_lags_3 rfl rfl ?_
  refine x_callOC (bc := 0) (bs := 0) E (as := [.int v1]) (rest := [.int 0, .ref 96]) dL_lags_4 K_RL_83 ⟨(Nat.le_of_ble_eq_true rfl), (Nat.le_of_ble_eq_true rfl)⟩ sh_0 (by decide) rfl rfl rfl (Nat.le_of_ble_eq_true rfl) (c_RH_lags_0 E v1 hq) 7 rfl (fun v hv => ?_) (fun k hk => ?_)
  · cases o with
    | inr k => cases hv
    | inl a =>
      cases hv
      try dsimp only at h
      cases h
      refine x_i2l 8 rfl dL_lags_7 ?_
      refine x_last E dL_lags_8 sh_96 0 (by decide) (by decide) 9 rfl ?_
      refine x_goto 15 dL_lags_9 (by decide) ?_
      refine x_iconst 16 rfl (v := 0) dL_lags_15 (by decide) ?_
      exact x_toH (x_iret dL_lags_16 rfl rfl rfl)
  · cases o with
    | inl a => cases hk
    | inr k2 =>
      cases hk
      try dsimp only at h
      obtain ⟨hc9, h⟩ := x_ift h
      subst hc9
      cases h
      refine ⟨12, 3, 1, KHd_lags_2, Or.inl ⟨3, dL_lags_12, rfl, rfl⟩, by decide, ?_⟩
      refine x_iconst 14 rfl (v := 1) dL_lags_13 (by decide) ?_
      exact x_toH (x_iret dL_lags_14 rfl rfl rfl)
def w_depth (v1 : Int32) (v2 : Int32) (σ : xS) : Option (Int32 × xS) :=
  (f_RH_depth_0 v1 v2 σ).bind fun q =>
  match q.1 with
  | .inl v => some ((0 : Int32), x_pL q.2 96 0 v.toInt64)
  | .inr k => if k = 2 then some ((1 : Int32), q.2) else if k = 1 then some ((2 : Int32), q.2) else none
set_option maxHeartbeats 4000000 in
set_option maxRecDepth 100000 in
theorem cw_depth {l : Launch} {s0 : State} {a0 : Array Value} {D : va_G} {cA : Nat → ClassId} {sp : Nat → Nat} (E : x_En CL l s0 a0 D cA sp) (v1 : Int32) (v2 : Int32) {σ : xS} {r : Int32} {σ1 : xS} (h : w_depth v1 v2 σ = some (r, σ1)) : x_CH l s0 D cA sp 2 M_La_depth [.ref 0, .int v1, .int v2, .ref 96] σ (some (.int r)) σ1 := by
  unfold w_depth at h
  obtain ⟨⟨o, σ2⟩, hq, h⟩ := x_bind h
  try dsimp only at h
  refine x_enterH [some (.ref 0), some (.int v1), some (.int v2), some (.ref 96), none] rfl (Nat.le_of_ble_eq_true rfl) (by decide +kernel) ?_
  refine x_aload_n 1 rfl 3 dL_depth_0 rfl rfl ?_
  refine x_iconst 2 rfl (v := 0) dL_depth_1 (by decide) ?_
  refine x_aload_n 3 rfl 0 dL_depth_2 rfl rfl ?_
  refine x_iload_n 4 rfl 1 dL_depth_3 rfl rfl ?_
  refine x_iload_n 5 rfl 2 dL_depth_4 rfl rfl ?_
  refine x_callOC (bc := 0) (bs := 0) E (as := [.int v1, .int v2]) (rest := [.int 0, .ref 96]) dL_depth_5 K_RL_86 ⟨(Nat.le_of_ble_eq_true rfl), (Nat.le_of_ble_eq_true rfl)⟩ sh_0 (by decide) rfl rfl rfl (Nat.le_of_ble_eq_true rfl) (c_RH_depth_0 E v1 v2 hq) 8 rfl (fun v hv => ?_) (fun k hk => ?_)
  · cases o with
    | inr k => cases hv
    | inl a =>
      cases hv
      try dsimp only at h
      cases h
      refine x_i2l 9 rfl dL_depth_8 ?_
      refine x_last E dL_depth_9 sh_96 0 (by decide) (by decide) 10 rfl ?_
      refine x_goto 21 dL_depth_10 (by decide) ?_
      refine x_iconst 22 rfl (v := 0) dL_depth_21 (by decide) ?_
      exact x_toH (x_iret dL_depth_22 rfl rfl rfl)
  · cases o with
    | inl a => cases hk
    | inr k2 =>
      cases hk
      try dsimp only at h
      by_cases hc0 : k = 2
      · subst hc0
        rw [if_pos rfl] at h
        cases h
        refine ⟨13, 4, 2, KHd_depth_2, Or.inr ⟨dL_depth_13, rfl⟩, by decide, ?_⟩
        refine x_iconst 16 rfl (v := 1) dL_depth_15 (by decide) ?_
        exact x_toH (x_iret dL_depth_16 rfl rfl rfl)
      rw [if_neg hc0] at h
      obtain ⟨hc9, h⟩ := x_ift h
      subst hc9
      cases h
      refine ⟨17, 4, 2, KHd_depth_1, Or.inr ⟨dL_depth_17, rfl⟩, by decide, ?_⟩
      refine x_iconst 20 rfl (v := 2) dL_depth_19 (by decide) ?_
      exact x_toH (x_iret dL_depth_20 rfl rfl rfl)
def w_shots (v1 : Int32) (σ : xS) : Option (Int32 × xS) :=
  (f_RH_shots_0 v1 σ).bind fun q =>
  match q.1 with
  | .inl v => some ((0 : Int32), x_pL q.2 96 0 v.toInt64)
  | .inr k => if k = 1 then some ((1 : Int32), q.2) else none
set_option maxHeartbeats 4000000 in
set_option maxRecDepth 100000 in
theorem cw_shots {l : Launch} {s0 : State} {a0 : Array Value} {D : va_G} {cA : Nat → ClassId} {sp : Nat → Nat} (E : x_En CL l s0 a0 D cA sp) (v1 : Int32) {σ : xS} {r : Int32} {σ1 : xS} (h : w_shots v1 σ = some (r, σ1)) : x_CH l s0 D cA sp 8 M_La_shots [.ref 0, .int v1, .ref 96] σ (some (.int r)) σ1 := by
  unfold w_shots at h
  obtain ⟨⟨o, σ2⟩, hq, h⟩ := x_bind h
  try dsimp only at h
  refine x_enterH [some (.ref 0), some (.int v1), some (.ref 96), none] rfl (Nat.le_of_ble_eq_true rfl) (by decide +kernel) ?_
  refine x_aload_n 1 rfl 2 dL_shots_0 rfl rfl ?_
  refine x_iconst 2 rfl (v := 0) dL_shots_1 (by decide) ?_
  refine x_aload_n 3 rfl 0 dL_shots_2 rfl rfl ?_
  refine x_iload_n 4 rfl 1 dL_shots_3 rfl rfl ?_
  refine x_callOC (bc := 0) (bs := 0) E (as := [.int v1]) (rest := [.int 0, .ref 96]) dL_shots_4 K_RL_89 ⟨(Nat.le_of_ble_eq_true rfl), (Nat.le_of_ble_eq_true rfl)⟩ sh_0 (by decide) rfl rfl rfl (Nat.le_of_ble_eq_true rfl) (c_RH_shots_0 E v1 hq) 7 rfl (fun v hv => ?_) (fun k hk => ?_)
  · cases o with
    | inr k => cases hv
    | inl a =>
      cases hv
      try dsimp only at h
      cases h
      refine x_i2l 8 rfl dL_shots_7 ?_
      refine x_last E dL_shots_8 sh_96 0 (by decide) (by decide) 9 rfl ?_
      refine x_goto 15 dL_shots_9 (by decide) ?_
      refine x_iconst 16 rfl (v := 0) dL_shots_15 (by decide) ?_
      exact x_toH (x_iret dL_shots_16 rfl rfl rfl)
  · cases o with
    | inl a => cases hk
    | inr k2 =>
      cases hk
      try dsimp only at h
      obtain ⟨hc9, h⟩ := x_ift h
      subst hc9
      cases h
      refine ⟨12, 3, 1, KHd_shots_1, Or.inl ⟨3, dL_shots_12, rfl, rfl⟩, by decide, ?_⟩
      refine x_iconst 14 rfl (v := 1) dL_shots_13 (by decide) ?_
      exact x_toH (x_iret dL_shots_14 rfl rfl rfl)
def w_quickest (v1 : Int32) (σ : xS) : Option (Int32 × xS) :=
  (f_RH_quickest_0 v1 σ).bind fun q =>
  match q.1 with
  | .inl v => some ((0 : Int32), x_pL q.2 96 0 v.toInt64)
  | .inr k => if k = 2 then some ((1 : Int32), q.2) else none
set_option maxHeartbeats 4000000 in
set_option maxRecDepth 100000 in
theorem cw_quickest {l : Launch} {s0 : State} {a0 : Array Value} {D : va_G} {cA : Nat → ClassId} {sp : Nat → Nat} (E : x_En CL l s0 a0 D cA sp) (v1 : Int32) {σ : xS} {r : Int32} {σ1 : xS} (h : w_quickest v1 σ = some (r, σ1)) : x_CH l s0 D cA sp 5 M_La_quickest [.ref 0, .int v1, .ref 96] σ (some (.int r)) σ1 := by
  unfold w_quickest at h
  obtain ⟨⟨o, σ2⟩, hq, h⟩ := x_bind h
  try dsimp only at h
  refine x_enterH [some (.ref 0), some (.int v1), some (.ref 96), none] rfl (Nat.le_of_ble_eq_true rfl) (by decide +kernel) ?_
  refine x_aload_n 1 rfl 2 dL_quickest_0 rfl rfl ?_
  refine x_iconst 2 rfl (v := 0) dL_quickest_1 (by decide) ?_
  refine x_aload_n 3 rfl 0 dL_quickest_2 rfl rfl ?_
  refine x_iload_n 4 rfl 1 dL_quickest_3 rfl rfl ?_
  refine x_callOC (bc := 0) (bs := 0) E (as := [.int v1]) (rest := [.int 0, .ref 96]) dL_quickest_4 K_RL_92 ⟨(Nat.le_of_ble_eq_true rfl), (Nat.le_of_ble_eq_true rfl)⟩ sh_0 (by decide) rfl rfl rfl (Nat.le_of_ble_eq_true rfl) (c_RH_quickest_0 E v1 hq) 7 rfl (fun v hv => ?_) (fun k hk => ?_)
  · cases o with
    | inr k => cases hv
    | inl a =>
      cases hv
      try dsimp only at h
      cases h
      refine x_i2l 8 rfl dL_quickest_7 ?_
      refine x_last E dL_quickest_8 sh_96 0 (by decide) (by decide) 9 rfl ?_
      refine x_goto 15 dL_quickest_9 (by decide) ?_
      refine x_iconst 16 rfl (v := 0) dL_quickest_15 (by decide) ?_
      exact x_toH (x_iret dL_quickest_16 rfl rfl rfl)
  · cases o with
    | inl a => cases hk
    | inr k2 =>
      cases hk
      try dsimp only at h
      obtain ⟨hc9, h⟩ := x_ift h
      subst hc9
      cases h
      refine ⟨12, 3, 1, KHd_quickest_2, Or.inl ⟨3, dL_quickest_12, rfl, rfl⟩, by decide, ?_⟩
      refine x_iconst 14 rfl (v := 1) dL_quickest_13 (by decide) ?_
      exact x_toH (x_iret dL_quickest_14 rfl rfl rfl)
