/-! THE LAW: the words of its calls -/
theorem lk_RL_19 : Cond.methodLink RL 19 yX6_init ∈ AW := AW_t 19 (by decide +kernel) (by decide +kernel)
theorem mf_X_init : MF yX6_init cX6_init 1 none 0 := ⟨AW_t 1 (by decide +kernel) (by decide +kernel), AW_t 21 (by decide +kernel) (by decide +kernel), by decide, by decide, by decide +kernel⟩
theorem im_X_init : Cond.instanceMethod yX6_init ∈ AW := AW_t 20 (by decide +kernel) (by decide +kernel)
theorem lk_RL_22 : Cond.methodLink RL 22 yX7_init ∈ AW := AW_t 831 (by decide +kernel) (by decide +kernel)
theorem mf_M_init : MF yX7_init cX7_init 1 none 0 := ⟨AW_t 8 (by decide +kernel) (by decide +kernel), AW_t 833 (by decide +kernel) (by decide +kernel), by decide, by decide, by decide +kernel⟩
theorem im_M_init : Cond.instanceMethod yX7_init ∈ AW := AW_t 832 (by decide +kernel) (by decide +kernel)
theorem lk_RL_23 : Cond.methodLink RL 23 yX6_bolt ∈ AW := AW_t 327 (by decide +kernel) (by decide +kernel)
theorem mf_X_bolt : MF yX6_bolt cX6_bolt 6 (some .int) 5 := ⟨AW_t 1 (by decide +kernel) (by decide +kernel), AW_t 330 (by decide +kernel) (by decide +kernel), by decide, by decide, by decide +kernel⟩
theorem im_X_bolt : Cond.instanceMethod yX6_bolt ∈ AW := AW_t 328 (by decide +kernel) (by decide +kernel)
theorem se_X_bolt : Cond.selects yX6_bolt.cls yX6_bolt yX6_bolt ∈ AW := AW_t 329 (by decide +kernel) (by decide +kernel)
theorem lk_RL_27 : Cond.methodLink RL 27 yX7_bolt ∈ AW := AW_t 988 (by decide +kernel) (by decide +kernel)
theorem mf_M_bolt : MF yX7_bolt cX7_bolt 6 (some .int) 5 := ⟨AW_t 8 (by decide +kernel) (by decide +kernel), AW_t 991 (by decide +kernel) (by decide +kernel), by decide, by decide, by decide +kernel⟩
theorem im_M_bolt : Cond.instanceMethod yX7_bolt ∈ AW := AW_t 989 (by decide +kernel) (by decide +kernel)
theorem se_M_bolt : Cond.selects yX7_bolt.cls yX7_bolt yX7_bolt ∈ AW := AW_t 990 (by decide +kernel) (by decide +kernel)
theorem lk_RL_28 : Cond.methodLink RL 28 yX6_plates ∈ AW := AW_t 345 (by decide +kernel) (by decide +kernel)
theorem mf_X_plates : MF yX6_plates cX6_plates 4 (some .int) 2 := ⟨AW_t 1 (by decide +kernel) (by decide +kernel), AW_t 348 (by decide +kernel) (by decide +kernel), by decide, by decide, by decide +kernel⟩
theorem im_X_plates : Cond.instanceMethod yX6_plates ∈ AW := AW_t 346 (by decide +kernel) (by decide +kernel)
theorem se_X_plates : Cond.selects yX6_plates.cls yX6_plates yX6_plates ∈ AW := AW_t 347 (by decide +kernel) (by decide +kernel)
theorem lk_RL_31 : Cond.methodLink RL 31 yX7_plates ∈ AW := AW_t 1010 (by decide +kernel) (by decide +kernel)
theorem mf_M_plates : MF yX7_plates cX7_plates 4 (some .int) 2 := ⟨AW_t 8 (by decide +kernel) (by decide +kernel), AW_t 1013 (by decide +kernel) (by decide +kernel), by decide, by decide, by decide +kernel⟩
theorem im_M_plates : Cond.instanceMethod yX7_plates ∈ AW := AW_t 1011 (by decide +kernel) (by decide +kernel)
theorem se_M_plates : Cond.selects yX7_plates.cls yX7_plates yX7_plates ∈ AW := AW_t 1012 (by decide +kernel) (by decide +kernel)
theorem lk_RL_32 : Cond.methodLink RL 32 yX6_pitch ∈ AW := AW_t 349 (by decide +kernel) (by decide +kernel)
theorem mf_X_pitch : MF yX6_pitch cX6_pitch 4 (some .int) 2 := ⟨AW_t 1 (by decide +kernel) (by decide +kernel), AW_t 352 (by decide +kernel) (by decide +kernel), by decide, by decide, by decide +kernel⟩
theorem im_X_pitch : Cond.instanceMethod yX6_pitch ∈ AW := AW_t 350 (by decide +kernel) (by decide +kernel)
theorem se_X_pitch : Cond.selects yX6_pitch.cls yX6_pitch yX6_pitch ∈ AW := AW_t 351 (by decide +kernel) (by decide +kernel)
theorem lk_RL_35 : Cond.methodLink RL 35 yX7_pitch ∈ AW := AW_t 1015 (by decide +kernel) (by decide +kernel)
theorem mf_M_pitch : MF yX7_pitch cX7_pitch 4 (some .int) 2 := ⟨AW_t 8 (by decide +kernel) (by decide +kernel), AW_t 1018 (by decide +kernel) (by decide +kernel), by decide, by decide, by decide +kernel⟩
theorem im_M_pitch : Cond.instanceMethod yX7_pitch ∈ AW := AW_t 1016 (by decide +kernel) (by decide +kernel)
theorem se_M_pitch : Cond.selects yX7_pitch.cls yX7_pitch yX7_pitch ∈ AW := AW_t 1017 (by decide +kernel) (by decide +kernel)
theorem lk_RL_36 : Cond.methodLink RL 36 yX6_alters ∈ AW := AW_t 361 (by decide +kernel) (by decide +kernel)
theorem mf_X_alters : MF yX6_alters cX6_alters 8 (some .int) 6 := ⟨AW_t 1 (by decide +kernel) (by decide +kernel), AW_t 364 (by decide +kernel) (by decide +kernel), by decide, by decide, by decide +kernel⟩
theorem im_X_alters : Cond.instanceMethod yX6_alters ∈ AW := AW_t 362 (by decide +kernel) (by decide +kernel)
theorem se_X_alters : Cond.selects yX6_alters.cls yX6_alters yX6_alters ∈ AW := AW_t 363 (by decide +kernel) (by decide +kernel)
theorem lk_RL_40 : Cond.methodLink RL 40 yX7_alters ∈ AW := AW_t 1023 (by decide +kernel) (by decide +kernel)
theorem mf_M_alters : MF yX7_alters cX7_alters 9 (some .int) 6 := ⟨AW_t 8 (by decide +kernel) (by decide +kernel), AW_t 1026 (by decide +kernel) (by decide +kernel), by decide, by decide, by decide +kernel⟩
theorem im_M_alters : Cond.instanceMethod yX7_alters ∈ AW := AW_t 1024 (by decide +kernel) (by decide +kernel)
theorem se_M_alters : Cond.selects yX7_alters.cls yX7_alters yX7_alters ∈ AW := AW_t 1025 (by decide +kernel) (by decide +kernel)
theorem lk_RL_41 : Cond.methodLink RL 41 yX6_takes ∈ AW := AW_t 367 (by decide +kernel) (by decide +kernel)
theorem mf_X_takes : MF yX6_takes cX6_takes 3 (some .int) 2 := ⟨AW_t 1 (by decide +kernel) (by decide +kernel), AW_t 370 (by decide +kernel) (by decide +kernel), by decide, by decide, by decide +kernel⟩
theorem im_X_takes : Cond.instanceMethod yX6_takes ∈ AW := AW_t 368 (by decide +kernel) (by decide +kernel)
theorem se_X_takes : Cond.selects yX6_takes.cls yX6_takes yX6_takes ∈ AW := AW_t 369 (by decide +kernel) (by decide +kernel)
theorem lk_RL_45 : Cond.methodLink RL 45 yX7_takes ∈ AW := AW_t 1031 (by decide +kernel) (by decide +kernel)
theorem mf_M_takes : MF yX7_takes cX7_takes 3 (some .int) 2 := ⟨AW_t 8 (by decide +kernel) (by decide +kernel), AW_t 1034 (by decide +kernel) (by decide +kernel), by decide, by decide, by decide +kernel⟩
theorem im_M_takes : Cond.instanceMethod yX7_takes ∈ AW := AW_t 1032 (by decide +kernel) (by decide +kernel)
theorem se_M_takes : Cond.selects yX7_takes.cls yX7_takes yX7_takes ∈ AW := AW_t 1033 (by decide +kernel) (by decide +kernel)
theorem lk_RL_46 : Cond.methodLink RL 46 yX6_swaps ∈ AW := AW_t 381 (by decide +kernel) (by decide +kernel)
theorem mf_X_swaps : MF yX6_swaps cX6_swaps 3 (some .boolean) 2 := ⟨AW_t 1 (by decide +kernel) (by decide +kernel), AW_t 384 (by decide +kernel) (by decide +kernel), by decide, by decide, by decide +kernel⟩
theorem im_X_swaps : Cond.instanceMethod yX6_swaps ∈ AW := AW_t 382 (by decide +kernel) (by decide +kernel)
theorem se_X_swaps : Cond.selects yX6_swaps.cls yX6_swaps yX6_swaps ∈ AW := AW_t 383 (by decide +kernel) (by decide +kernel)
theorem lk_RL_50 : Cond.methodLink RL 50 yX7_swaps ∈ AW := AW_t 1039 (by decide +kernel) (by decide +kernel)
theorem mf_M_swaps : MF yX7_swaps cX7_swaps 3 (some .boolean) 2 := ⟨AW_t 8 (by decide +kernel) (by decide +kernel), AW_t 1042 (by decide +kernel) (by decide +kernel), by decide, by decide, by decide +kernel⟩
theorem im_M_swaps : Cond.instanceMethod yX7_swaps ∈ AW := AW_t 1040 (by decide +kernel) (by decide +kernel)
theorem se_M_swaps : Cond.selects yX7_swaps.cls yX7_swaps yX7_swaps ∈ AW := AW_t 1041 (by decide +kernel) (by decide +kernel)
theorem lk_RL_51 : Cond.methodLink RL 51 yX6_clears ∈ AW := AW_t 394 (by decide +kernel) (by decide +kernel)
theorem mf_X_clears : MF yX6_clears cX6_clears 2 (some .int) 0 := ⟨AW_t 1 (by decide +kernel) (by decide +kernel), AW_t 397 (by decide +kernel) (by decide +kernel), by decide, by decide, by decide +kernel⟩
theorem im_X_clears : Cond.instanceMethod yX6_clears ∈ AW := AW_t 395 (by decide +kernel) (by decide +kernel)
theorem se_X_clears : Cond.selects yX6_clears.cls yX6_clears yX6_clears ∈ AW := AW_t 396 (by decide +kernel) (by decide +kernel)
theorem lk_RL_55 : Cond.methodLink RL 55 yX7_clears ∈ AW := AW_t 1047 (by decide +kernel) (by decide +kernel)
theorem mf_M_clears : MF yX7_clears cX7_clears 2 (some .int) 0 := ⟨AW_t 8 (by decide +kernel) (by decide +kernel), AW_t 1050 (by decide +kernel) (by decide +kernel), by decide, by decide, by decide +kernel⟩
theorem im_M_clears : Cond.instanceMethod yX7_clears ∈ AW := AW_t 1048 (by decide +kernel) (by decide +kernel)
theorem se_M_clears : Cond.selects yX7_clears.cls yX7_clears yX7_clears ∈ AW := AW_t 1049 (by decide +kernel) (by decide +kernel)
theorem lk_RL_56 : Cond.methodLink RL 56 yX6_sign ∈ AW := AW_t 398 (by decide +kernel) (by decide +kernel)
theorem mf_X_sign : MF yX6_sign cX6_sign 2 (some .int) 1 := ⟨AW_t 1 (by decide +kernel) (by decide +kernel), AW_t 401 (by decide +kernel) (by decide +kernel), by decide, by decide, by decide +kernel⟩
theorem im_X_sign : Cond.instanceMethod yX6_sign ∈ AW := AW_t 399 (by decide +kernel) (by decide +kernel)
theorem se_X_sign : Cond.selects yX6_sign.cls yX6_sign yX6_sign ∈ AW := AW_t 400 (by decide +kernel) (by decide +kernel)
theorem lk_RL_60 : Cond.methodLink RL 60 yX7_sign ∈ AW := AW_t 1051 (by decide +kernel) (by decide +kernel)
theorem mf_M_sign : MF yX7_sign cX7_sign 3 (some .int) 1 := ⟨AW_t 8 (by decide +kernel) (by decide +kernel), AW_t 1054 (by decide +kernel) (by decide +kernel), by decide, by decide, by decide +kernel⟩
theorem im_M_sign : Cond.instanceMethod yX7_sign ∈ AW := AW_t 1052 (by decide +kernel) (by decide +kernel)
theorem se_M_sign : Cond.selects yX7_sign.cls yX7_sign yX7_sign ∈ AW := AW_t 1053 (by decide +kernel) (by decide +kernel)
theorem lk_RL_61 : Cond.methodLink RL 61 yX6_end ∈ AW := AW_t 406 (by decide +kernel) (by decide +kernel)
theorem mf_X_end : MF yX6_end cX6_end 2 (some .boolean) 1 := ⟨AW_t 1 (by decide +kernel) (by decide +kernel), AW_t 409 (by decide +kernel) (by decide +kernel), by decide, by decide, by decide +kernel⟩
theorem im_X_end : Cond.instanceMethod yX6_end ∈ AW := AW_t 407 (by decide +kernel) (by decide +kernel)
theorem se_X_end : Cond.selects yX6_end.cls yX6_end yX6_end ∈ AW := AW_t 408 (by decide +kernel) (by decide +kernel)
theorem lk_RL_65 : Cond.methodLink RL 65 yX7_end ∈ AW := AW_t 1055 (by decide +kernel) (by decide +kernel)
theorem mf_M_end : MF yX7_end cX7_end 2 (some .boolean) 1 := ⟨AW_t 8 (by decide +kernel) (by decide +kernel), AW_t 1058 (by decide +kernel) (by decide +kernel), by decide, by decide, by decide +kernel⟩
theorem im_M_end : Cond.instanceMethod yX7_end ∈ AW := AW_t 1056 (by decide +kernel) (by decide +kernel)
theorem se_M_end : Cond.selects yX7_end.cls yX7_end yX7_end ∈ AW := AW_t 1057 (by decide +kernel) (by decide +kernel)
theorem lk_RL_66 : Cond.methodLink RL 66 yX6_joint ∈ AW := AW_t 414 (by decide +kernel) (by decide +kernel)
theorem mf_X_joint : MF yX6_joint cX6_joint 2 (some .int) 0 := ⟨AW_t 1 (by decide +kernel) (by decide +kernel), AW_t 417 (by decide +kernel) (by decide +kernel), by decide, by decide, by decide +kernel⟩
theorem im_X_joint : Cond.instanceMethod yX6_joint ∈ AW := AW_t 415 (by decide +kernel) (by decide +kernel)
theorem se_X_joint : Cond.selects yX6_joint.cls yX6_joint yX6_joint ∈ AW := AW_t 416 (by decide +kernel) (by decide +kernel)
theorem lk_RL_69 : Cond.methodLink RL 69 yX7_joint ∈ AW := AW_t 1059 (by decide +kernel) (by decide +kernel)
theorem mf_M_joint : MF yX7_joint cX7_joint 4 (some .int) 0 := ⟨AW_t 8 (by decide +kernel) (by decide +kernel), AW_t 1062 (by decide +kernel) (by decide +kernel), by decide, by decide, by decide +kernel⟩
theorem im_M_joint : Cond.instanceMethod yX7_joint ∈ AW := AW_t 1060 (by decide +kernel) (by decide +kernel)
theorem se_M_joint : Cond.selects yX7_joint.cls yX7_joint yX7_joint ∈ AW := AW_t 1061 (by decide +kernel) (by decide +kernel)
theorem lk_RL_70 : Cond.methodLink RL 70 yL_part ∈ AW := AW_t 753 (by decide +kernel) (by decide +kernel)
theorem sm_L_part : Cond.static yL_part ∈ AW := AW_t 754 (by decide +kernel) (by decide +kernel)
theorem cw_L_part : Cond.codeWith yL_part cL_part 5 (some .int) [(0, 10, 13, 13)] ∈ AW := AW_t 755 (by decide +kernel) (by decide +kernel)
theorem lk_RL_75 : Cond.methodLink RL 75 yX7_part ∈ AW := AW_t 1081 (by decide +kernel) (by decide +kernel)
theorem mf_M_part : MF yX7_part cX7_part 3 (some .int) 2 := ⟨AW_t 8 (by decide +kernel) (by decide +kernel), AW_t 1084 (by decide +kernel) (by decide +kernel), by decide, by decide, by decide +kernel⟩
theorem im_M_part : Cond.instanceMethod yX7_part ∈ AW := AW_t 1082 (by decide +kernel) (by decide +kernel)
theorem se_M_part : Cond.selects yX7_part.cls yX7_part yX7_part ∈ AW := AW_t 1083 (by decide +kernel) (by decide +kernel)
theorem lk_RL_76 : Cond.methodLink RL 76 yX7_thrown ∈ AW := AW_t 984 (by decide +kernel) (by decide +kernel)
theorem mf_M_thrown : MF yX7_thrown cX7_thrown 1 (some .int) 0 := ⟨AW_t 8 (by decide +kernel) (by decide +kernel), AW_t 987 (by decide +kernel) (by decide +kernel), by decide, by decide, by decide +kernel⟩
theorem im_M_thrown : Cond.instanceMethod yX7_thrown ∈ AW := AW_t 985 (by decide +kernel) (by decide +kernel)
theorem se_M_thrown : Cond.selects yX7_thrown.cls yX7_thrown yX7_thrown ∈ AW := AW_t 986 (by decide +kernel) (by decide +kernel)
theorem lk_RL_79 : Cond.methodLink RL 79 yX6_force ∈ AW := AW_t 437 (by decide +kernel) (by decide +kernel)
theorem mf_X_force : MF yX6_force cX6_force 4 (some .int) 2 := ⟨AW_t 1 (by decide +kernel) (by decide +kernel), AW_t 440 (by decide +kernel) (by decide +kernel), by decide, by decide, by decide +kernel⟩
theorem im_X_force : Cond.instanceMethod yX6_force ∈ AW := AW_t 438 (by decide +kernel) (by decide +kernel)
theorem se_X_force : Cond.selects yX6_force.cls yX6_force yX6_force ∈ AW := AW_t 439 (by decide +kernel) (by decide +kernel)
theorem lk_RL_82 : Cond.methodLink RL 82 yX7_force ∈ AW := AW_t 1090 (by decide +kernel) (by decide +kernel)
theorem mf_M_force : MF yX7_force cX7_force 3 (some .int) 2 := ⟨AW_t 8 (by decide +kernel) (by decide +kernel), AW_t 1093 (by decide +kernel) (by decide +kernel), by decide, by decide, by decide +kernel⟩
theorem im_M_force : Cond.instanceMethod yX7_force ∈ AW := AW_t 1091 (by decide +kernel) (by decide +kernel)
theorem se_M_force : Cond.selects yX7_force.cls yX7_force yX7_force ∈ AW := AW_t 1092 (by decide +kernel) (by decide +kernel)
theorem lk_RL_83 : Cond.methodLink RL 83 yX6_slip ∈ AW := AW_t 553 (by decide +kernel) (by decide +kernel)
theorem mf_X_slip : MF yX6_slip cX6_slip 4 (some .int) 2 := ⟨AW_t 1 (by decide +kernel) (by decide +kernel), AW_t 556 (by decide +kernel) (by decide +kernel), by decide, by decide, by decide +kernel⟩
theorem im_X_slip : Cond.instanceMethod yX6_slip ∈ AW := AW_t 554 (by decide +kernel) (by decide +kernel)
theorem se_X_slip : Cond.selects yX6_slip.cls yX6_slip yX6_slip ∈ AW := AW_t 555 (by decide +kernel) (by decide +kernel)
theorem lk_RL_86 : Cond.methodLink RL 86 yX7_slip ∈ AW := AW_t 1221 (by decide +kernel) (by decide +kernel)
theorem mf_M_slip : MF yX7_slip cX7_slip 3 (some .int) 2 := ⟨AW_t 8 (by decide +kernel) (by decide +kernel), AW_t 1224 (by decide +kernel) (by decide +kernel), by decide, by decide, by decide +kernel⟩
theorem im_M_slip : Cond.instanceMethod yX7_slip ∈ AW := AW_t 1222 (by decide +kernel) (by decide +kernel)
theorem se_M_slip : Cond.selects yX7_slip.cls yX7_slip yX7_slip ∈ AW := AW_t 1223 (by decide +kernel) (by decide +kernel)
theorem lk_RL_87 : Cond.methodLink RL 87 yX6_bears ∈ AW := AW_t 561 (by decide +kernel) (by decide +kernel)
theorem mf_X_bears : MF yX6_bears cX6_bears 8 (some .int) 2 := ⟨AW_t 1 (by decide +kernel) (by decide +kernel), AW_t 564 (by decide +kernel) (by decide +kernel), by decide, by decide, by decide +kernel⟩
theorem im_X_bears : Cond.instanceMethod yX6_bears ∈ AW := AW_t 562 (by decide +kernel) (by decide +kernel)
theorem se_X_bears : Cond.selects yX6_bears.cls yX6_bears yX6_bears ∈ AW := AW_t 563 (by decide +kernel) (by decide +kernel)
theorem lk_RL_90 : Cond.methodLink RL 90 yX7_bears ∈ AW := AW_t 1225 (by decide +kernel) (by decide +kernel)
theorem mf_M_bears : MF yX7_bears cX7_bears 3 (some .int) 2 := ⟨AW_t 8 (by decide +kernel) (by decide +kernel), AW_t 1228 (by decide +kernel) (by decide +kernel), by decide, by decide, by decide +kernel⟩
theorem im_M_bears : Cond.instanceMethod yX7_bears ∈ AW := AW_t 1226 (by decide +kernel) (by decide +kernel)
theorem se_M_bears : Cond.selects yX7_bears.cls yX7_bears yX7_bears ∈ AW := AW_t 1227 (by decide +kernel) (by decide +kernel)
theorem lk_RL_91 : Cond.methodLink RL 91 yX6_stretch ∈ AW := AW_t 570 (by decide +kernel) (by decide +kernel)
theorem mf_X_stretch : MF yX6_stretch cX6_stretch 6 (some .int) 1 := ⟨AW_t 1 (by decide +kernel) (by decide +kernel), AW_t 573 (by decide +kernel) (by decide +kernel), by decide, by decide, by decide +kernel⟩
theorem im_X_stretch : Cond.instanceMethod yX6_stretch ∈ AW := AW_t 571 (by decide +kernel) (by decide +kernel)
theorem se_X_stretch : Cond.selects yX6_stretch.cls yX6_stretch yX6_stretch ∈ AW := AW_t 572 (by decide +kernel) (by decide +kernel)
theorem lk_RL_94 : Cond.methodLink RL 94 yX7_stretch ∈ AW := AW_t 1233 (by decide +kernel) (by decide +kernel)
theorem mf_M_stretch : MF yX7_stretch cX7_stretch 5 (some .int) 1 := ⟨AW_t 8 (by decide +kernel) (by decide +kernel), AW_t 1236 (by decide +kernel) (by decide +kernel), by decide, by decide, by decide +kernel⟩
theorem im_M_stretch : Cond.instanceMethod yX7_stretch ∈ AW := AW_t 1234 (by decide +kernel) (by decide +kernel)
theorem se_M_stretch : Cond.selects yX7_stretch.cls yX7_stretch yX7_stretch ∈ AW := AW_t 1235 (by decide +kernel) (by decide +kernel)
theorem lk_RL_95 : Cond.methodLink RL 95 yX6_state ∈ AW := AW_t 574 (by decide +kernel) (by decide +kernel)
theorem mf_X_state : MF yX6_state cX6_state 5 (some .int) 2 := ⟨AW_t 1 (by decide +kernel) (by decide +kernel), AW_t 577 (by decide +kernel) (by decide +kernel), by decide, by decide, by decide +kernel⟩
theorem im_X_state : Cond.instanceMethod yX6_state ∈ AW := AW_t 575 (by decide +kernel) (by decide +kernel)
theorem se_X_state : Cond.selects yX6_state.cls yX6_state yX6_state ∈ AW := AW_t 576 (by decide +kernel) (by decide +kernel)
theorem lk_RL_98 : Cond.methodLink RL 98 yX7_state ∈ AW := AW_t 1237 (by decide +kernel) (by decide +kernel)
theorem mf_M_state : MF yX7_state cX7_state 4 (some .int) 2 := ⟨AW_t 8 (by decide +kernel) (by decide +kernel), AW_t 1240 (by decide +kernel) (by decide +kernel), by decide, by decide, by decide +kernel⟩
theorem im_M_state : Cond.instanceMethod yX7_state ∈ AW := AW_t 1238 (by decide +kernel) (by decide +kernel)
theorem se_M_state : Cond.selects yX7_state.cls yX7_state yX7_state ∈ AW := AW_t 1239 (by decide +kernel) (by decide +kernel)
theorem lk_RL_99 : Cond.methodLink RL 99 yX6_idle ∈ AW := AW_t 578 (by decide +kernel) (by decide +kernel)
theorem mf_X_idle : MF yX6_idle cX6_idle 3 (some .int) 1 := ⟨AW_t 1 (by decide +kernel) (by decide +kernel), AW_t 581 (by decide +kernel) (by decide +kernel), by decide, by decide, by decide +kernel⟩
theorem im_X_idle : Cond.instanceMethod yX6_idle ∈ AW := AW_t 579 (by decide +kernel) (by decide +kernel)
theorem se_X_idle : Cond.selects yX6_idle.cls yX6_idle yX6_idle ∈ AW := AW_t 580 (by decide +kernel) (by decide +kernel)
theorem lk_RL_102 : Cond.methodLink RL 102 yX7_idle ∈ AW := AW_t 1245 (by decide +kernel) (by decide +kernel)
theorem mf_M_idle : MF yX7_idle cX7_idle 6 (some .int) 1 := ⟨AW_t 8 (by decide +kernel) (by decide +kernel), AW_t 1248 (by decide +kernel) (by decide +kernel), by decide, by decide, by decide +kernel⟩
theorem im_M_idle : Cond.instanceMethod yX7_idle ∈ AW := AW_t 1246 (by decide +kernel) (by decide +kernel)
theorem se_M_idle : Cond.selects yX7_idle.cls yX7_idle yX7_idle ∈ AW := AW_t 1247 (by decide +kernel) (by decide +kernel)
theorem lk_RL_103 : Cond.methodLink RL 103 yX6_hardest ∈ AW := AW_t 587 (by decide +kernel) (by decide +kernel)
theorem mf_X_hardest : MF yX6_hardest cX6_hardest 6 (some .int) 1 := ⟨AW_t 1 (by decide +kernel) (by decide +kernel), AW_t 590 (by decide +kernel) (by decide +kernel), by decide, by decide, by decide +kernel⟩
theorem im_X_hardest : Cond.instanceMethod yX6_hardest ∈ AW := AW_t 588 (by decide +kernel) (by decide +kernel)
theorem se_X_hardest : Cond.selects yX6_hardest.cls yX6_hardest yX6_hardest ∈ AW := AW_t 589 (by decide +kernel) (by decide +kernel)
theorem lk_RL_106 : Cond.methodLink RL 106 yX7_hardest ∈ AW := AW_t 1249 (by decide +kernel) (by decide +kernel)
theorem mf_M_hardest : MF yX7_hardest cX7_hardest 5 (some .int) 1 := ⟨AW_t 8 (by decide +kernel) (by decide +kernel), AW_t 1252 (by decide +kernel) (by decide +kernel), by decide, by decide, by decide +kernel⟩
theorem im_M_hardest : Cond.instanceMethod yX7_hardest ∈ AW := AW_t 1250 (by decide +kernel) (by decide +kernel)
theorem se_M_hardest : Cond.selects yX7_hardest.cls yX7_hardest yX7_hardest ∈ AW := AW_t 1251 (by decide +kernel) (by decide +kernel)
theorem lk_RL_107 : Cond.methodLink RL 107 yX6_margin ∈ AW := AW_t 592 (by decide +kernel) (by decide +kernel)
theorem mf_X_margin : MF yX6_margin cX6_margin 4 (some .int) 1 := ⟨AW_t 1 (by decide +kernel) (by decide +kernel), AW_t 595 (by decide +kernel) (by decide +kernel), by decide, by decide, by decide +kernel⟩
theorem im_X_margin : Cond.instanceMethod yX6_margin ∈ AW := AW_t 593 (by decide +kernel) (by decide +kernel)
theorem se_X_margin : Cond.selects yX6_margin.cls yX6_margin yX6_margin ∈ AW := AW_t 594 (by decide +kernel) (by decide +kernel)
theorem lk_RL_110 : Cond.methodLink RL 110 yX7_margin ∈ AW := AW_t 1254 (by decide +kernel) (by decide +kernel)
theorem mf_M_margin : MF yX7_margin cX7_margin 3 (some .int) 1 := ⟨AW_t 8 (by decide +kernel) (by decide +kernel), AW_t 1257 (by decide +kernel) (by decide +kernel), by decide, by decide, by decide +kernel⟩
theorem im_M_margin : Cond.instanceMethod yX7_margin ∈ AW := AW_t 1255 (by decide +kernel) (by decide +kernel)
theorem se_M_margin : Cond.selects yX7_margin.cls yX7_margin yX7_margin ∈ AW := AW_t 1256 (by decide +kernel) (by decide +kernel)
theorem lk_RL_111 : Cond.methodLink RL 111 yX6_work ∈ AW := AW_t 596 (by decide +kernel) (by decide +kernel)
theorem mf_X_work : MF yX6_work cX6_work 9 (some .int) 1 := ⟨AW_t 1 (by decide +kernel) (by decide +kernel), AW_t 599 (by decide +kernel) (by decide +kernel), by decide, by decide, by decide +kernel⟩
theorem im_X_work : Cond.instanceMethod yX6_work ∈ AW := AW_t 597 (by decide +kernel) (by decide +kernel)
theorem se_X_work : Cond.selects yX6_work.cls yX6_work yX6_work ∈ AW := AW_t 598 (by decide +kernel) (by decide +kernel)
theorem lk_RL_114 : Cond.methodLink RL 114 yX7_work ∈ AW := AW_t 1262 (by decide +kernel) (by decide +kernel)
theorem mf_M_work : MF yX7_work cX7_work 13 (some .int) 1 := ⟨AW_t 8 (by decide +kernel) (by decide +kernel), AW_t 1265 (by decide +kernel) (by decide +kernel), by decide, by decide, by decide +kernel⟩
theorem im_M_work : Cond.instanceMethod yX7_work ∈ AW := AW_t 1263 (by decide +kernel) (by decide +kernel)
theorem se_M_work : Cond.selects yX7_work.cls yX7_work yX7_work ∈ AW := AW_t 1264 (by decide +kernel) (by decide +kernel)
theorem lk_RL_115 : Cond.methodLink RL 115 yX6_set ∈ AW := AW_t 608 (by decide +kernel) (by decide +kernel)
theorem mf_X_set : MF yX6_set cX6_set 5 (some .int) 2 := ⟨AW_t 1 (by decide +kernel) (by decide +kernel), AW_t 611 (by decide +kernel) (by decide +kernel), by decide, by decide, by decide +kernel⟩
theorem im_X_set : Cond.instanceMethod yX6_set ∈ AW := AW_t 609 (by decide +kernel) (by decide +kernel)
theorem se_X_set : Cond.selects yX6_set.cls yX6_set yX6_set ∈ AW := AW_t 610 (by decide +kernel) (by decide +kernel)
theorem lk_RL_118 : Cond.methodLink RL 118 yX7_set ∈ AW := AW_t 1270 (by decide +kernel) (by decide +kernel)
theorem mf_M_set : MF yX7_set cX7_set 3 (some .int) 2 := ⟨AW_t 8 (by decide +kernel) (by decide +kernel), AW_t 1273 (by decide +kernel) (by decide +kernel), by decide, by decide, by decide +kernel⟩
theorem im_M_set : Cond.instanceMethod yX7_set ∈ AW := AW_t 1271 (by decide +kernel) (by decide +kernel)
theorem se_M_set : Cond.selects yX7_set.cls yX7_set yX7_set ∈ AW := AW_t 1272 (by decide +kernel) (by decide +kernel)
theorem lk_RL_119 : Cond.methodLink RL 119 yX6_falls ∈ AW := AW_t 617 (by decide +kernel) (by decide +kernel)
theorem mf_X_falls : MF yX6_falls cX6_falls 7 (some .int) 3 := ⟨AW_t 1 (by decide +kernel) (by decide +kernel), AW_t 620 (by decide +kernel) (by decide +kernel), by decide, by decide, by decide +kernel⟩
theorem im_X_falls : Cond.instanceMethod yX6_falls ∈ AW := AW_t 618 (by decide +kernel) (by decide +kernel)
theorem se_X_falls : Cond.selects yX6_falls.cls yX6_falls yX6_falls ∈ AW := AW_t 619 (by decide +kernel) (by decide +kernel)
theorem lk_RL_123 : Cond.methodLink RL 123 yX7_falls ∈ AW := AW_t 1278 (by decide +kernel) (by decide +kernel)
theorem mf_M_falls : MF yX7_falls cX7_falls 5 (some .int) 3 := ⟨AW_t 8 (by decide +kernel) (by decide +kernel), AW_t 1281 (by decide +kernel) (by decide +kernel), by decide, by decide, by decide +kernel⟩
theorem im_M_falls : Cond.instanceMethod yX7_falls ∈ AW := AW_t 1279 (by decide +kernel) (by decide +kernel)
theorem se_M_falls : Cond.selects yX7_falls.cls yX7_falls yX7_falls ∈ AW := AW_t 1280 (by decide +kernel) (by decide +kernel)
theorem lk_RL_124 : Cond.methodLink RL 124 yX6_opens ∈ AW := AW_t 631 (by decide +kernel) (by decide +kernel)
theorem mf_X_opens : MF yX6_opens cX6_opens 4 (some .int) 1 := ⟨AW_t 1 (by decide +kernel) (by decide +kernel), AW_t 634 (by decide +kernel) (by decide +kernel), by decide, by decide, by decide +kernel⟩
theorem im_X_opens : Cond.instanceMethod yX6_opens ∈ AW := AW_t 632 (by decide +kernel) (by decide +kernel)
theorem se_X_opens : Cond.selects yX6_opens.cls yX6_opens yX6_opens ∈ AW := AW_t 633 (by decide +kernel) (by decide +kernel)
theorem lk_RL_127 : Cond.methodLink RL 127 yX7_opens ∈ AW := AW_t 1306 (by decide +kernel) (by decide +kernel)
theorem mf_M_opens : MF yX7_opens cX7_opens 5 (some .int) 1 := ⟨AW_t 8 (by decide +kernel) (by decide +kernel), AW_t 1309 (by decide +kernel) (by decide +kernel), by decide, by decide, by decide +kernel⟩
theorem im_M_opens : Cond.instanceMethod yX7_opens ∈ AW := AW_t 1307 (by decide +kernel) (by decide +kernel)
theorem se_M_opens : Cond.selects yX7_opens.cls yX7_opens yX7_opens ∈ AW := AW_t 1308 (by decide +kernel) (by decide +kernel)
theorem lk_RL_128 : Cond.methodLink RL 128 yX6_events ∈ AW := AW_t 639 (by decide +kernel) (by decide +kernel)
theorem mf_X_events : MF yX6_events cX6_events 2 (some .int) 0 := ⟨AW_t 1 (by decide +kernel) (by decide +kernel), AW_t 642 (by decide +kernel) (by decide +kernel), by decide, by decide, by decide +kernel⟩
theorem im_X_events : Cond.instanceMethod yX6_events ∈ AW := AW_t 640 (by decide +kernel) (by decide +kernel)
theorem se_X_events : Cond.selects yX6_events.cls yX6_events yX6_events ∈ AW := AW_t 641 (by decide +kernel) (by decide +kernel)
theorem lk_RL_131 : Cond.methodLink RL 131 yX7_events ∈ AW := AW_t 1313 (by decide +kernel) (by decide +kernel)
theorem mf_M_events : MF yX7_events cX7_events 2 (some .int) 0 := ⟨AW_t 8 (by decide +kernel) (by decide +kernel), AW_t 1316 (by decide +kernel) (by decide +kernel), by decide, by decide, by decide +kernel⟩
theorem im_M_events : Cond.instanceMethod yX7_events ∈ AW := AW_t 1314 (by decide +kernel) (by decide +kernel)
theorem se_M_events : Cond.selects yX7_events.cls yX7_events yX7_events ∈ AW := AW_t 1315 (by decide +kernel) (by decide +kernel)
theorem lk_RL_132 : Cond.methodLink RL 132 yX6_event ∈ AW := AW_t 647 (by decide +kernel) (by decide +kernel)
theorem mf_X_event : MF yX6_event cX6_event 2 (some .int) 1 := ⟨AW_t 1 (by decide +kernel) (by decide +kernel), AW_t 650 (by decide +kernel) (by decide +kernel), by decide, by decide, by decide +kernel⟩
theorem im_X_event : Cond.instanceMethod yX6_event ∈ AW := AW_t 648 (by decide +kernel) (by decide +kernel)
theorem se_X_event : Cond.selects yX6_event.cls yX6_event yX6_event ∈ AW := AW_t 649 (by decide +kernel) (by decide +kernel)
theorem lk_RL_135 : Cond.methodLink RL 135 yX7_event ∈ AW := AW_t 1321 (by decide +kernel) (by decide +kernel)
theorem mf_M_event : MF yX7_event cX7_event 2 (some .int) 1 := ⟨AW_t 8 (by decide +kernel) (by decide +kernel), AW_t 1324 (by decide +kernel) (by decide +kernel), by decide, by decide, by decide +kernel⟩
theorem im_M_event : Cond.instanceMethod yX7_event ∈ AW := AW_t 1322 (by decide +kernel) (by decide +kernel)
theorem se_M_event : Cond.selects yX7_event.cls yX7_event yX7_event ∈ AW := AW_t 1323 (by decide +kernel) (by decide +kernel)
theorem lk_RL_136 : Cond.methodLink RL 136 yX6_peak ∈ AW := AW_t 651 (by decide +kernel) (by decide +kernel)
theorem mf_X_peak : MF yX6_peak cX6_peak 3 (some .int) 0 := ⟨AW_t 1 (by decide +kernel) (by decide +kernel), AW_t 654 (by decide +kernel) (by decide +kernel), by decide, by decide, by decide +kernel⟩
theorem im_X_peak : Cond.instanceMethod yX6_peak ∈ AW := AW_t 652 (by decide +kernel) (by decide +kernel)
theorem se_X_peak : Cond.selects yX6_peak.cls yX6_peak yX6_peak ∈ AW := AW_t 653 (by decide +kernel) (by decide +kernel)
theorem lk_RL_139 : Cond.methodLink RL 139 yX7_peak ∈ AW := AW_t 1325 (by decide +kernel) (by decide +kernel)
theorem mf_M_peak : MF yX7_peak cX7_peak 3 (some .int) 0 := ⟨AW_t 8 (by decide +kernel) (by decide +kernel), AW_t 1328 (by decide +kernel) (by decide +kernel), by decide, by decide, by decide +kernel⟩
theorem im_M_peak : Cond.instanceMethod yX7_peak ∈ AW := AW_t 1326 (by decide +kernel) (by decide +kernel)
theorem se_M_peak : Cond.selects yX7_peak.cls yX7_peak yX7_peak ∈ AW := AW_t 1327 (by decide +kernel) (by decide +kernel)
theorem lk_RL_140 : Cond.methodLink RL 140 yX6_order ∈ AW := AW_t 655 (by decide +kernel) (by decide +kernel)
theorem mf_X_order : MF yX6_order cX6_order 2 (some .int) 0 := ⟨AW_t 1 (by decide +kernel) (by decide +kernel), AW_t 658 (by decide +kernel) (by decide +kernel), by decide, by decide, by decide +kernel⟩
theorem im_X_order : Cond.instanceMethod yX6_order ∈ AW := AW_t 656 (by decide +kernel) (by decide +kernel)
theorem se_X_order : Cond.selects yX6_order.cls yX6_order yX6_order ∈ AW := AW_t 657 (by decide +kernel) (by decide +kernel)
theorem lk_RL_143 : Cond.methodLink RL 143 yX7_order ∈ AW := AW_t 1329 (by decide +kernel) (by decide +kernel)
theorem mf_M_order : MF yX7_order cX7_order 2 (some .int) 0 := ⟨AW_t 8 (by decide +kernel) (by decide +kernel), AW_t 1332 (by decide +kernel) (by decide +kernel), by decide, by decide, by decide +kernel⟩
theorem im_M_order : Cond.instanceMethod yX7_order ∈ AW := AW_t 1330 (by decide +kernel) (by decide +kernel)
theorem se_M_order : Cond.selects yX7_order.cls yX7_order yX7_order ∈ AW := AW_t 1331 (by decide +kernel) (by decide +kernel)
theorem lk_RL_144 : Cond.methodLink RL 144 yX6_when ∈ AW := AW_t 659 (by decide +kernel) (by decide +kernel)
theorem mf_X_when : MF yX6_when cX6_when 4 (some .int) 2 := ⟨AW_t 1 (by decide +kernel) (by decide +kernel), AW_t 662 (by decide +kernel) (by decide +kernel), by decide, by decide, by decide +kernel⟩
theorem im_X_when : Cond.instanceMethod yX6_when ∈ AW := AW_t 660 (by decide +kernel) (by decide +kernel)
theorem se_X_when : Cond.selects yX6_when.cls yX6_when yX6_when ∈ AW := AW_t 661 (by decide +kernel) (by decide +kernel)
theorem lk_RL_147 : Cond.methodLink RL 147 yX7_when ∈ AW := AW_t 1333 (by decide +kernel) (by decide +kernel)
theorem mf_M_when : MF yX7_when cX7_when 4 (some .int) 2 := ⟨AW_t 8 (by decide +kernel) (by decide +kernel), AW_t 1336 (by decide +kernel) (by decide +kernel), by decide, by decide, by decide +kernel⟩
theorem im_M_when : Cond.instanceMethod yX7_when ∈ AW := AW_t 1334 (by decide +kernel) (by decide +kernel)
theorem se_M_when : Cond.selects yX7_when.cls yX7_when yX7_when ∈ AW := AW_t 1335 (by decide +kernel) (by decide +kernel)
theorem lk_RL_148 : Cond.methodLink RL 148 yX6_sheds ∈ AW := AW_t 667 (by decide +kernel) (by decide +kernel)
theorem mf_X_sheds : MF yX6_sheds cX6_sheds 5 (some .int) 1 := ⟨AW_t 1 (by decide +kernel) (by decide +kernel), AW_t 670 (by decide +kernel) (by decide +kernel), by decide, by decide, by decide +kernel⟩
theorem im_X_sheds : Cond.instanceMethod yX6_sheds ∈ AW := AW_t 668 (by decide +kernel) (by decide +kernel)
theorem se_X_sheds : Cond.selects yX6_sheds.cls yX6_sheds yX6_sheds ∈ AW := AW_t 669 (by decide +kernel) (by decide +kernel)
theorem lk_RL_151 : Cond.methodLink RL 151 yX7_sheds ∈ AW := AW_t 1341 (by decide +kernel) (by decide +kernel)
theorem mf_M_sheds : MF yX7_sheds cX7_sheds 8 (some .int) 1 := ⟨AW_t 8 (by decide +kernel) (by decide +kernel), AW_t 1344 (by decide +kernel) (by decide +kernel), by decide, by decide, by decide +kernel⟩
theorem im_M_sheds : Cond.instanceMethod yX7_sheds ∈ AW := AW_t 1342 (by decide +kernel) (by decide +kernel)
theorem se_M_sheds : Cond.selects yX7_sheds.cls yX7_sheds yX7_sheds ∈ AW := AW_t 1343 (by decide +kernel) (by decide +kernel)
theorem lk_RL_152 : Cond.methodLink RL 152 yX6_replays ∈ AW := AW_t 684 (by decide +kernel) (by decide +kernel)
theorem mf_X_replays : MF yX6_replays cX6_replays 5 (some .int) 0 := ⟨AW_t 1 (by decide +kernel) (by decide +kernel), AW_t 687 (by decide +kernel) (by decide +kernel), by decide, by decide, by decide +kernel⟩
theorem im_X_replays : Cond.instanceMethod yX6_replays ∈ AW := AW_t 685 (by decide +kernel) (by decide +kernel)
theorem se_X_replays : Cond.selects yX6_replays.cls yX6_replays yX6_replays ∈ AW := AW_t 686 (by decide +kernel) (by decide +kernel)
theorem lk_RL_155 : Cond.methodLink RL 155 yX7_replays ∈ AW := AW_t 1353 (by decide +kernel) (by decide +kernel)
theorem mf_M_replays : MF yX7_replays cX7_replays 6 (some .int) 0 := ⟨AW_t 8 (by decide +kernel) (by decide +kernel), AW_t 1356 (by decide +kernel) (by decide +kernel), by decide, by decide, by decide +kernel⟩
theorem im_M_replays : Cond.instanceMethod yX7_replays ∈ AW := AW_t 1354 (by decide +kernel) (by decide +kernel)
theorem se_M_replays : Cond.selects yX7_replays.cls yX7_replays yX7_replays ∈ AW := AW_t 1355 (by decide +kernel) (by decide +kernel)
theorem lk_RL_156 : Cond.methodLink RL 156 yX6_without ∈ AW := AW_t 697 (by decide +kernel) (by decide +kernel)
theorem mf_X_without : MF yX6_without cX6_without 2 (some .int) 1 := ⟨AW_t 1 (by decide +kernel) (by decide +kernel), AW_t 700 (by decide +kernel) (by decide +kernel), by decide, by decide, by decide +kernel⟩
theorem im_X_without : Cond.instanceMethod yX6_without ∈ AW := AW_t 698 (by decide +kernel) (by decide +kernel)
theorem se_X_without : Cond.selects yX6_without.cls yX6_without yX6_without ∈ AW := AW_t 699 (by decide +kernel) (by decide +kernel)
theorem lk_RL_159 : Cond.methodLink RL 159 yX7_without ∈ AW := AW_t 1357 (by decide +kernel) (by decide +kernel)
theorem mf_M_without : MF yX7_without cX7_without 6 (some .int) 1 := ⟨AW_t 8 (by decide +kernel) (by decide +kernel), AW_t 1360 (by decide +kernel) (by decide +kernel), by decide, by decide, by decide +kernel⟩
theorem im_M_without : Cond.instanceMethod yX7_without ∈ AW := AW_t 1358 (by decide +kernel) (by decide +kernel)
theorem se_M_without : Cond.selects yX7_without.cls yX7_without yX7_without ∈ AW := AW_t 1359 (by decide +kernel) (by decide +kernel)
theorem lk_RL_160 : Cond.methodLink RL 160 yX6_tunes ∈ AW := AW_t 705 (by decide +kernel) (by decide +kernel)
theorem mf_X_tunes : MF yX6_tunes cX6_tunes 8 (some .int) 1 := ⟨AW_t 1 (by decide +kernel) (by decide +kernel), AW_t 708 (by decide +kernel) (by decide +kernel), by decide, by decide, by decide +kernel⟩
theorem im_X_tunes : Cond.instanceMethod yX6_tunes ∈ AW := AW_t 706 (by decide +kernel) (by decide +kernel)
theorem se_X_tunes : Cond.selects yX6_tunes.cls yX6_tunes yX6_tunes ∈ AW := AW_t 707 (by decide +kernel) (by decide +kernel)
theorem lk_RL_163 : Cond.methodLink RL 163 yX7_tunes ∈ AW := AW_t 1365 (by decide +kernel) (by decide +kernel)
theorem mf_M_tunes : MF yX7_tunes cX7_tunes 4 (some .int) 1 := ⟨AW_t 8 (by decide +kernel) (by decide +kernel), AW_t 1368 (by decide +kernel) (by decide +kernel), by decide, by decide, by decide +kernel⟩
theorem im_M_tunes : Cond.instanceMethod yX7_tunes ∈ AW := AW_t 1366 (by decide +kernel) (by decide +kernel)
theorem se_M_tunes : Cond.selects yX7_tunes.cls yX7_tunes yX7_tunes ∈ AW := AW_t 1367 (by decide +kernel) (by decide +kernel)
theorem lk_RL_164 : Cond.methodLink RL 164 yX6_arranges ∈ AW := AW_t 710 (by decide +kernel) (by decide +kernel)
theorem mf_X_arranges : MF yX6_arranges cX6_arranges 7 (some .int) 0 := ⟨AW_t 1 (by decide +kernel) (by decide +kernel), AW_t 713 (by decide +kernel) (by decide +kernel), by decide, by decide, by decide +kernel⟩
theorem im_X_arranges : Cond.instanceMethod yX6_arranges ∈ AW := AW_t 711 (by decide +kernel) (by decide +kernel)
theorem se_X_arranges : Cond.selects yX6_arranges.cls yX6_arranges yX6_arranges ∈ AW := AW_t 712 (by decide +kernel) (by decide +kernel)
theorem lk_RL_167 : Cond.methodLink RL 167 yX7_arranges ∈ AW := AW_t 1381 (by decide +kernel) (by decide +kernel)
theorem mf_M_arranges : MF yX7_arranges cX7_arranges 4 (some .int) 0 := ⟨AW_t 8 (by decide +kernel) (by decide +kernel), AW_t 1384 (by decide +kernel) (by decide +kernel), by decide, by decide, by decide +kernel⟩
theorem im_M_arranges : Cond.instanceMethod yX7_arranges ∈ AW := AW_t 1382 (by decide +kernel) (by decide +kernel)
theorem se_M_arranges : Cond.selects yX7_arranges.cls yX7_arranges yX7_arranges ∈ AW := AW_t 1383 (by decide +kernel) (by decide +kernel)
theorem lk_RL_168 : Cond.methodLink RL 168 yX6_fits ∈ AW := AW_t 731 (by decide +kernel) (by decide +kernel)
theorem mf_X_fits : MF yX6_fits cX6_fits 4 (some .int) 1 := ⟨AW_t 1 (by decide +kernel) (by decide +kernel), AW_t 734 (by decide +kernel) (by decide +kernel), by decide, by decide, by decide +kernel⟩
theorem im_X_fits : Cond.instanceMethod yX6_fits ∈ AW := AW_t 732 (by decide +kernel) (by decide +kernel)
theorem se_X_fits : Cond.selects yX6_fits.cls yX6_fits yX6_fits ∈ AW := AW_t 733 (by decide +kernel) (by decide +kernel)
theorem lk_RL_171 : Cond.methodLink RL 171 yX7_fits ∈ AW := AW_t 1393 (by decide +kernel) (by decide +kernel)
theorem mf_M_fits : MF yX7_fits cX7_fits 5 (some .int) 1 := ⟨AW_t 8 (by decide +kernel) (by decide +kernel), AW_t 1396 (by decide +kernel) (by decide +kernel), by decide, by decide, by decide +kernel⟩
theorem im_M_fits : Cond.instanceMethod yX7_fits ∈ AW := AW_t 1394 (by decide +kernel) (by decide +kernel)
theorem se_M_fits : Cond.selects yX7_fits.cls yX7_fits yX7_fits ∈ AW := AW_t 1395 (by decide +kernel) (by decide +kernel)
theorem lk_RL_172 : Cond.methodLink RL 172 yX6_chance ∈ AW := AW_t 738 (by decide +kernel) (by decide +kernel)
theorem mf_X_chance : MF yX6_chance cX6_chance 12 (some .int) 3 := ⟨AW_t 1 (by decide +kernel) (by decide +kernel), AW_t 741 (by decide +kernel) (by decide +kernel), by decide, by decide, by decide +kernel⟩
theorem im_X_chance : Cond.instanceMethod yX6_chance ∈ AW := AW_t 739 (by decide +kernel) (by decide +kernel)
theorem se_X_chance : Cond.selects yX6_chance.cls yX6_chance yX6_chance ∈ AW := AW_t 740 (by decide +kernel) (by decide +kernel)
theorem lk_RL_175 : Cond.methodLink RL 175 yX7_chance ∈ AW := AW_t 1397 (by decide +kernel) (by decide +kernel)
theorem mf_M_chance : MF yX7_chance cX7_chance 7 (some .int) 3 := ⟨AW_t 8 (by decide +kernel) (by decide +kernel), AW_t 1400 (by decide +kernel) (by decide +kernel), by decide, by decide, by decide +kernel⟩
theorem im_M_chance : Cond.instanceMethod yX7_chance ∈ AW := AW_t 1398 (by decide +kernel) (by decide +kernel)
theorem se_M_chance : Cond.selects yX7_chance.cls yX7_chance yX7_chance ∈ AW := AW_t 1399 (by decide +kernel) (by decide +kernel)
theorem lk_RL_176 : Cond.methodLink RL 176 yX6_count ∈ AW := AW_t 744 (by decide +kernel) (by decide +kernel)
theorem mf_X_count : MF yX6_count cX6_count 2 (some .int) 1 := ⟨AW_t 1 (by decide +kernel) (by decide +kernel), AW_t 747 (by decide +kernel) (by decide +kernel), by decide, by decide, by decide +kernel⟩
theorem im_X_count : Cond.instanceMethod yX6_count ∈ AW := AW_t 745 (by decide +kernel) (by decide +kernel)
theorem se_X_count : Cond.selects yX6_count.cls yX6_count yX6_count ∈ AW := AW_t 746 (by decide +kernel) (by decide +kernel)
theorem lk_RL_179 : Cond.methodLink RL 179 yX7_count ∈ AW := AW_t 1407 (by decide +kernel) (by decide +kernel)
theorem mf_M_count : MF yX7_count cX7_count 2 (some .int) 1 := ⟨AW_t 8 (by decide +kernel) (by decide +kernel), AW_t 1410 (by decide +kernel) (by decide +kernel), by decide, by decide, by decide +kernel⟩
theorem im_M_count : Cond.instanceMethod yX7_count ∈ AW := AW_t 1408 (by decide +kernel) (by decide +kernel)
theorem se_M_count : Cond.selects yX7_count.cls yX7_count yX7_count ∈ AW := AW_t 1409 (by decide +kernel) (by decide +kernel)
theorem lk_RL_180 : Cond.methodLink RL 180 yL_row ∈ AW := AW_t 822 (by decide +kernel) (by decide +kernel)
theorem sm_L_row : Cond.static yL_row ∈ AW := AW_t 823 (by decide +kernel) (by decide +kernel)
theorem cw_L_row : Cond.codeWith yL_row cL_row 4 (some .int) [(0, 8, 11, 13)] ∈ AW := AW_t 824 (by decide +kernel) (by decide +kernel)
theorem lk_RL_183 : Cond.methodLink RL 183 yX7_row ∈ AW := AW_t 1419 (by decide +kernel) (by decide +kernel)
theorem mf_M_row : MF yX7_row cX7_row 2 (some .long) 1 := ⟨AW_t 8 (by decide +kernel) (by decide +kernel), AW_t 1422 (by decide +kernel) (by decide +kernel), by decide, by decide, by decide +kernel⟩
theorem im_M_row : Cond.instanceMethod yX7_row ∈ AW := AW_t 1420 (by decide +kernel) (by decide +kernel)
theorem se_M_row : Cond.selects yX7_row.cls yX7_row yX7_row ∈ AW := AW_t 1421 (by decide +kernel) (by decide +kernel)
theorem mf_X_part : MF yX6_part cX6_part 3 (some .int) 2 := ⟨AW_t 1 (by decide +kernel) (by decide +kernel), AW_t 760 (by decide +kernel) (by decide +kernel), by decide, by decide, by decide +kernel⟩
theorem im_X_part : Cond.instanceMethod yX6_part ∈ AW := AW_t 758 (by decide +kernel) (by decide +kernel)
theorem se_X_part : Cond.selects yX6_part.cls yX6_part yX6_part ∈ AW := AW_t 759 (by decide +kernel) (by decide +kernel)
theorem lk_RL_7 : Cond.methodLink RL 7 yX6_part ∈ AW := AW_t 757 (by decide +kernel) (by decide +kernel)
theorem mf_X_row : MF yX6_row cX6_row 2 (some .long) 1 := ⟨AW_t 1 (by decide +kernel) (by decide +kernel), AW_t 828 (by decide +kernel) (by decide +kernel), by decide, by decide, by decide +kernel⟩
theorem im_X_row : Cond.instanceMethod yX6_row ∈ AW := AW_t 826 (by decide +kernel) (by decide +kernel)
theorem se_X_row : Cond.selects yX6_row.cls yX6_row yX6_row ∈ AW := AW_t 827 (by decide +kernel) (by decide +kernel)
theorem lk_RL_15 : Cond.methodLink RL 15 yX6_row ∈ AW := AW_t 825 (by decide +kernel) (by decide +kernel)
theorem cl_RL_13 : Cond.classLink RL 13 NSE ∈ AW := AW_t 756 (by decide +kernel) (by decide +kernel)
theorem in_RL : Cond.initialized RL ∈ AW := AW_t 0 (by decide +kernel) (by decide +kernel)
/-! part and row: the class and the model -/
theorem op_part {n : Nat} {nv : Nat → Nat → Int} {A B : Int} {g c y s u pit o now : Nat → Int32} (hJt : Jt n nv A B) {bn ju jl many mu ml : Int32} (J : JX n nv A B g c y s u o pit bn ju jl) (X : MX n nv A B now many mu ml) (x1 x2 th0 : Int32) :
    ∃ (oo : Option Int32) (r th : Int32), f_X_part x1 x2 g c y s u o pit bn = some oo ∧ f_M_part x1 x2 now many th0 = some (r, th) ∧ ((∃ v, oo = some v ∧ th = 0 ∧ r = v) ∨ (oo = none ∧ th = 1)) := by
  obtain ⟨i, rfl, hi⟩ := zI_all x1
  obtain ⟨w, rfl, hw⟩ := zI_all x2
  obtain ⟨J1, ho, rfl, rfl, rfl⟩ := J
  obtain ⟨h, rfl, rfl, rfl⟩ := X
  obtain ⟨hn, hv, hA, hB⟩ := hJt
  unfold f_X_part f_M_part
  rw [has_z hn hi, isBolt_z hn hi, Option.bind_some, Option.bind_some]
  by_cases q1 : 0 ≤ i ∧ i < n
  rotate_left
  · rw [if_pos (b01_ne0.mpr q1), if_pos (b01_ne0.mpr q1)]
    exact ⟨none, 0, 1, rfl, rfl, Or.inr ⟨rfl, rfl⟩⟩
  rw [if_neg (fun z => (b01_ne0.mp z) q1), if_neg (fun z => (b01_ne0.mp z) q1)]
  obtain ⟨k, rfl⟩ : ∃ k : Nat, i = (k : Int) := ⟨i.toNat, by omega⟩
  have hk : k < n := by omega
  obtain ⟨j1, j2, j3, j4, j5, j6⟩ := J1
  have em : f_M_in (Int32.toInt64 (zI w)) (0 : Int64) (6 : Int64) = some (zI (b01 (0 ≤ w ∧ w ≤ 6))) := min_z (a := 0) (b := 6) hw (by omega) (by omega)
  rw [em, Option.bind_some]
  have e0 : ∀ t : Int, 0 ≤ t → t ≤ 6 → w ≠ t → ¬ zI w = zI t := fun t h1 h2 h3 z => h3 ((zI_eq (by omega) (by omega) (by omega) (by omega)).mp z)
  have n0 : w ≠ 0 → ¬ zI w = (0 : Int32) := e0 0 (by omega) (by omega)
  have n1 : w ≠ 1 → ¬ zI w = (1 : Int32) := e0 1 (by omega) (by omega)
  have n2 : w ≠ 2 → ¬ zI w = (2 : Int32) := e0 2 (by omega) (by omega)
  have n3 : w ≠ 3 → ¬ zI w = (3 : Int32) := e0 3 (by omega) (by omega)
  have n4 : w ≠ 4 → ¬ zI w = (4 : Int32) := e0 4 (by omega) (by omega)
  have n5 : w ≠ 5 → ¬ zI w = (5 : Int32) := e0 5 (by omega) (by omega)
  have n6 : w ≠ 6 → ¬ zI w = (6 : Int32) := e0 6 (by omega) (by omega)
  by_cases q2 : 0 ≤ w ∧ w ≤ 6
  rotate_left
  · rw [if_pos (b01_ne0.mpr q2), if_neg (n0 (by omega)), if_neg (n1 (by omega)), if_neg (n2 (by omega)), if_neg (n3 (by omega)), if_neg (n4 (by omega)), if_neg (n5 (by omega)), if_neg (n6 (by omega))]
    exact ⟨none, 0, 1, rfl, rfl, Or.inr ⟨rfl, rfl⟩⟩
  rw [if_neg (fun z => (b01_ne0.mp z) q2)]
  have ef : ∀ q : Nat, q < 7 → f_M_of (zI (k : Int)) (zI (q : Int)) now = some (zI (nv k q)) := fun q hq => of_z hn h (i := k) hk hq
  clear em
  rcases (by omega : w = 0 ∨ w = 1 ∨ w = 2 ∨ w = 3 ∨ w = 4 ∨ w = 5 ∨ w = 6) with rfl | rfl | rfl | rfl | rfl | rfl | rfl
  · rw [if_pos (show zI 0 = (0 : Int32) from rfl), ldA_z (f := g) (j := k) (by omega) (by omega), Option.bind_some, if_neg (n6 (by omega)), show f_M_of (zI (k : Int)) (zI 0) now = some (zI (nv k 0)) from ef 0 (by omega), Option.bind_some]
    exact ⟨_, _, _, rfl, rfl, Or.inl ⟨_, rfl, rfl, (j1 k hk).symm⟩⟩
  · rw [if_neg (n0 (by omega)), if_pos (show zI 1 = (1 : Int32) from rfl), ldA_z (f := c) (j := k) (by omega) (by omega), Option.bind_some, if_neg (n6 (by omega)), show f_M_of (zI (k : Int)) (zI 1) now = some (zI (nv k 1)) from ef 1 (by omega), Option.bind_some]
    exact ⟨_, _, _, rfl, rfl, Or.inl ⟨_, rfl, rfl, (j2 k hk).symm⟩⟩
  · rw [if_neg (n0 (by omega)), if_neg (n1 (by omega)), if_pos (show zI 2 = (2 : Int32) from rfl), ldA_z (f := y) (j := k) (by omega) (by omega), Option.bind_some, if_neg (n6 (by omega)), show f_M_of (zI (k : Int)) (zI 2) now = some (zI (nv k 2)) from ef 2 (by omega), Option.bind_some]
    exact ⟨_, _, _, rfl, rfl, Or.inl ⟨_, rfl, rfl, (j3 k hk).symm⟩⟩
  · rw [if_neg (n0 (by omega)), if_neg (n1 (by omega)), if_neg (n2 (by omega)), if_pos (show zI 3 = (3 : Int32) from rfl), ldA_z (f := s) (j := k) (by omega) (by omega), Option.bind_some, if_neg (n6 (by omega)), show f_M_of (zI (k : Int)) (zI 3) now = some (zI (nv k 3)) from ef 3 (by omega), Option.bind_some]
    exact ⟨_, _, _, rfl, rfl, Or.inl ⟨_, rfl, rfl, (j4 k hk).symm⟩⟩
  · rw [if_neg (n0 (by omega)), if_neg (n1 (by omega)), if_neg (n2 (by omega)), if_neg (n3 (by omega)), if_pos (show zI 4 = (4 : Int32) from rfl), ldA_z (f := u) (j := k) (by omega) (by omega), Option.bind_some, if_neg (n6 (by omega)), show f_M_of (zI (k : Int)) (zI 4) now = some (zI (nv k 4)) from ef 4 (by omega), Option.bind_some]
    exact ⟨_, _, _, rfl, rfl, Or.inl ⟨_, rfl, rfl, (j5 k hk).symm⟩⟩
  · rw [if_neg (n0 (by omega)), if_neg (n1 (by omega)), if_neg (n2 (by omega)), if_neg (n3 (by omega)), if_neg (n4 (by omega)), if_pos (show zI 5 = (5 : Int32) from rfl), ldA_z (f := o) (j := k) (by omega) (by omega), Option.bind_some, if_neg (n6 (by omega)), show f_M_of (zI (k : Int)) (zI 5) now = some (zI (nv k 5)) from ef 5 (by omega), Option.bind_some, ho k hk]
    have hb := hv k hk
    rcases (by omega : nv k 5 = 0 ∨ nv k 5 = 1) with z | z
    · rw [z, if_pos (show zI 0 = (0 : Int32) from rfl)]
      exact ⟨_, _, _, rfl, rfl, Or.inl ⟨_, rfl, rfl, rfl⟩⟩
    · rw [z, if_neg (show ¬ zI 1 = (0 : Int32) by decide)]
      exact ⟨_, _, _, rfl, rfl, Or.inl ⟨_, rfl, rfl, rfl⟩⟩
  · rw [if_neg (n0 (by omega)), if_neg (n1 (by omega)), if_neg (n2 (by omega)), if_neg (n3 (by omega)), if_neg (n4 (by omega)), if_neg (n5 (by omega)), if_pos (show zI 6 = (6 : Int32) from rfl), if_pos (show zI 6 = (6 : Int32) from rfl), hasGap_z hn hi, Option.bind_some]
    have em1 : zI (n : Int) - (1 : Int32) = zI ((n : Int) - 1) := by rw [show (1 : Int32) = zI 1 from rfl, zI_sub]
    rw [em1]
    by_cases q3 : 0 ≤ (k : Int) ∧ (k : Int) + 1 < n
    · rw [if_neg (fun z => (b01_ne0.mp z) q3), ldA_z (f := pit) (j := k) (by omega) (by omega), Option.bind_some, if_neg (fun z => by have := (zI_eq (by omega) (by omega) (by omega) (by omega)).mp z; omega), show f_M_of (zI (k : Int)) (zI 6) now = some (zI (nv k 6)) from ef 6 (by omega), Option.bind_some]
      exact ⟨_, _, _, rfl, rfl, Or.inl ⟨_, rfl, rfl, (j6 k (by omega)).symm⟩⟩
    · rw [if_pos (b01_ne0.mpr q3), if_pos (show zI (k : Int) = zI ((n : Int) - 1) by rw [show (k : Int) = (n : Int) - 1 by omega])]
      exact ⟨_, _, _, rfl, rfl, Or.inl ⟨_, rfl, rfl, rfl⟩⟩
theorem op_row {nu : Nat → Int64} {sz : Int32} {row : Nat → Int64} {rm : Int32} (hR : RowEq nu sz row rm) (x1 th0 : Int32) :
    ∃ (oo : Option Int64) (r : Int64) (th : Int32), f_X_row x1 nu sz = some oo ∧ f_M_row x1 row rm th0 = some (r, th) ∧ ((∃ v, oo = some v ∧ th = 0 ∧ r = v) ∨ (oo = none ∧ th = 1)) := by
  obtain ⟨i, rfl, hi⟩ := zI_all x1
  obtain ⟨l, hl, ⟨rfl, h1⟩, ⟨rfl, h2⟩⟩ := hR
  unfold f_X_row f_M_row
  have em1 : Int32.toInt64 (zI (l.length : Int) - (1 : Int32)) = zL ((l.length : Int) - 1) := by
    rw [show (1 : Int32) = zI 1 from rfl, zI_sub]; exact zI_l (by omega) (by omega)
  have em : f_M_in (Int32.toInt64 (zI i)) (0 : Int64) (zL ((l.length : Int) - 1)) = some (zI (b01 (0 ≤ i ∧ i ≤ (l.length : Int) - 1))) := min_z (a := 0) hi (by omega) (by omega)
  rw [em1, em, Option.bind_some]
  by_cases q0 : i < 0
  · rw [if_pos (show zI i < 0 from (zI_lt (b := 0) (by omega) (by omega) (by omega) (by omega)).mpr q0), if_pos (b01_ne0.mpr (by omega))]
    exact ⟨none, _, 1, rfl, rfl, Or.inr ⟨rfl, rfl⟩⟩
  rw [if_neg (show ¬ zI i < 0 from fun z => q0 ((zI_lt (b := 0) (by omega) (by omega) (by omega) (by omega)).mp z))]
  by_cases q1 : (l.length : Int) ≤ i
  · rw [if_pos ((zI_le (by omega) (by omega) (by omega) (by omega)).mpr q1), if_pos (b01_ne0.mpr (by omega))]
    exact ⟨none, _, 1, rfl, rfl, Or.inr ⟨rfl, rfl⟩⟩
  rw [if_neg (fun z => q1 ((zI_le (by omega) (by omega) (by omega) (by omega)).mp z)), if_neg (fun z => (b01_ne0.mp z) (by omega)), if_pos (show zI i < (8 : Int32) from (zI_lt (b := 8) (by omega) (by omega) (by omega) (by omega)).mpr (by omega))]
  obtain ⟨k, rfl⟩ : ∃ k : Nat, i = (k : Int) := ⟨i.toNat, by omega⟩
  have hk : k < l.length := by omega
  rw [ldA_z (f := nu) (j := k) (by omega) (by omega), ldA_z (f := row) (j := k) (by omega) (by omega), Option.bind_some, Option.bind_some, h1 k _ (List.getElem?_eq_getElem hk), h2 k _ (List.getElem?_eq_getElem hk)]
  exact ⟨_, _, _, rfl, rfl, Or.inl ⟨_, rfl, rfl, rfl⟩⟩
/-! THE LAW: part and row, as it asks them -/
theorem dis_0 {a n : Nat} (h : 0 < a) : ∀ i ∈ [0], i ∉ List.range' a n := by
  intro i hi hm
  rw [List.mem_singleton] at hi
  subst hi
  have := (List.mem_range'_1.mp hm).1
  omega
def outc (K : Kd) (out : Nat) (o : Nat → Int64) : Nat × va_E := (out, .inl (K.2.2.1, 1, .inr (.inl o)))
set_option maxRecDepth 4000 in
theorem t_L_part (K : Kd) (b out : Nat) (l1 l2 : Int32) (wx : va_W) (o0 : Nat → Int64) (o : Option Int32) (hlen : wx.length = 68) (hh : ∃ fs, wx[0]? = some (b, .inr (6, fs))) (hC : CtrT yX6_part cX6_part 3 (some .int) 6 1 6 K [.ref b, .int l1, .int l2] wx (fun r w => w = wx ∧ ∃ v, o = some v ∧ r = some (.int v)) (o = none)) : CtrW yL_part cL_part 5 (some .int) [(0, 10, 13, 13)] 7 1 6 K [.ref b, .int l1, .int l2, .ref out] ([outc K out o0] ++ wx) (fun r w => ∃ (o1 : Nat → Int64) (k : Int32), r = some (.int k) ∧ w = [outc K out o1] ++ wx ∧ ((∃ v, o = some v ∧ k = 0 ∧ o1 0 = v.toInt64) ∨ (o = none ∧ k = 1))) := by
  refine mkCtrW (by decide) (Nat.le_of_ble_eq_true rfl) (fun G hG h hq hl0 htab hX => ?_)
  subst hG
  obtain ⟨fs, hfs⟩ := hh
  refine V_aload_n (pc := 0) h 3 dL_part_0 rfl ?_
  refine V_iconst (pc := 1) h dL_part_1 ic_0 ?_
  refine V_aload_n (pc := 2) h 0 dL_part_2 rfl ?_
  refine V_iload_n (pc := 3) h 1 dL_part_3 rfl ?_
  refine V_iload_n (pc := 4) h 2 dL_part_4 rfl ?_
  refine V_callT (pc := 5) h hX hl0 ⟨0, 10, 13, 13⟩ htab _ hC mf_X_part lk_RL_7 im_X_part se_X_part ⟨Nat.le_of_ble_eq_true rfl, Nat.le_of_ble_eq_true rfl⟩ ⟨Nat.le_of_ble_eq_true rfl, Nat.le_of_ble_eq_true rfl⟩ (List.range' 1 wx.length) [0] [outc (gK G) out o0] (get_tail [outc (gK G) out o0] wx) rfl (by rw [hlen]; rfl) rfl (dis_0 (by omega)) 1 hfs rfl rfl rfl (Nat.le_of_ble_eq_true rfl) dL_part_5 rfl (by decide) cl_RL_13 (fun r w1 hw => ?_) (fun hxp q => ?_)
  · obtain ⟨rfl, v, hv, rfl⟩ := hw
    refine V_i2l (pc := 8) h dL_part_8 ?_
    refine V_last (pc := 9) h 0 ([outc (gK G) out (vp_updL o0 0 v.toInt64)] ++ w1) rfl rfl rfl dL_part_9 ?_
    refine V_goto (pc := 10) (tgt := 17) h dL_part_10 (by decide) ?_
    refine V_iconst (pc := 17) h dL_part_17 ic_0 ?_
    exact V_iret (pc := 18) h hq dL_part_18 ⟨_, 0, rfl, rfl, Or.inl ⟨v, hv, rfl, rfl⟩⟩
  · refine V_astore (pc := 13) h [(4, .ref q), (0, .ref b), (1, .int l1), (2, .int l2), (3, .ref out)] dL_part_13 (by decide) rfl ?_
    refine V_iconst (pc := 15) h dL_part_15 ic_1 ?_
    exact V_iret (pc := 16) h hq dL_part_16 ⟨o0, 1, rfl, rfl, Or.inr ⟨hxp, rfl⟩⟩
set_option maxRecDepth 4000 in
theorem t_L_row (K : Kd) (b out : Nat) (l1 : Int32) (wx : va_W) (o0 : Nat → Int64) (o : Option Int64) (hlen : wx.length = 68) (hh : ∃ fs, wx[0]? = some (b, .inr (6, fs))) (hC : CtrT yX6_row cX6_row 2 (some .long) 6 1 6 K [.ref b, .int l1] wx (fun r w => w = wx ∧ ∃ v, o = some v ∧ r = some (.long v)) (o = none)) : CtrW yL_row cL_row 4 (some .int) [(0, 8, 11, 13)] 7 1 6 K [.ref b, .int l1, .ref out] ([outc K out o0] ++ wx) (fun r w => ∃ (o1 : Nat → Int64) (k : Int32), r = some (.int k) ∧ w = [outc K out o1] ++ wx ∧ ((∃ v, o = some v ∧ k = 0 ∧ o1 0 = v) ∨ (o = none ∧ k = 1))) := by
  refine mkCtrW (by decide) (Nat.le_of_ble_eq_true rfl) (fun G hG h hq hl0 htab hX => ?_)
  subst hG
  obtain ⟨fs, hfs⟩ := hh
  refine V_aload_n (pc := 0) h 2 dL_row_0 rfl ?_
  refine V_iconst (pc := 1) h dL_row_1 ic_0 ?_
  refine V_aload_n (pc := 2) h 0 dL_row_2 rfl ?_
  refine V_iload_n (pc := 3) h 1 dL_row_3 rfl ?_
  refine V_callT (pc := 4) h hX hl0 ⟨0, 8, 11, 13⟩ htab _ hC mf_X_row lk_RL_15 im_X_row se_X_row ⟨Nat.le_of_ble_eq_true rfl, Nat.le_of_ble_eq_true rfl⟩ ⟨Nat.le_of_ble_eq_true rfl, Nat.le_of_ble_eq_true rfl⟩ (List.range' 1 wx.length) [0] [outc (gK G) out o0] (get_tail [outc (gK G) out o0] wx) rfl (by rw [hlen]; rfl) rfl (dis_0 (by omega)) 1 hfs rfl rfl rfl (Nat.le_of_ble_eq_true rfl) dL_row_4 rfl (by decide) cl_RL_13 (fun r w1 hw => ?_) (fun hxp q => ?_)
  · obtain ⟨rfl, v, hv, rfl⟩ := hw
    refine V_last (pc := 7) h 0 ([outc (gK G) out (vp_updL o0 0 v)] ++ w1) rfl rfl rfl dL_row_7 ?_
    refine V_goto (pc := 8) (tgt := 14) h dL_row_8 (by decide) ?_
    refine V_iconst (pc := 14) h dL_row_14 ic_0 ?_
    exact V_iret (pc := 15) h hq dL_row_15 ⟨_, 0, rfl, rfl, Or.inl ⟨v, hv, rfl, rfl⟩⟩
  · refine V_astore_n (pc := 11) h [(3, .ref q), (0, .ref b), (1, .int l1), (2, .ref out)] dL_row_11 (by decide) rfl ?_
    refine V_iconst (pc := 12) h dL_row_12 ic_1 ?_
    exact V_iret (pc := 13) h hq dL_row_13 ⟨o0, 1, rfl, rfl, Or.inr ⟨hxp, rfl⟩⟩
